/** Each promise of the document by itself: ordinary inputs, the edges it names, wrong inputs. */
public final class PromisesTest extends Asking {
    // ---- the text, the original

    private static void promise1() {
        PieceBook x = new PieceBook();
        for (int what = 0; what < 9; what++) {
            due(x.count(what), what == 1 ? 1 : 0);
        }
        due(x.store(0, 0) + x.store(1, 0) + x.store(0, 2) + x.store(1, 2), 0);
        for (int i = 0; i < 8; i++) {
            due(x.mark(i), -2);
        }
        for (int i = 0; i < 3; i++) {
            due(x.again(i), false);
        }
        due(PieceBook.NONE, -1);
    }

    private static void promise2() {
        PieceBook x = new PieceBook();
        due(x.sign('a' << 24 | 'b' << 16 | 'c' << 8 | 'd'), 4);
        due(x.sign(-1), 8);
        due(x.end(4), true);
        due(x.inserts(0), 4);
        due(shown(x), "abcd");
        for (int i = 1; i <= 20; i++) {
            due(x.sign(0), 4 * i);
        }
        due(x.sign(0), -1);
        due(x.count(8), 80);
        due(x.end(77), true);
        due(x.sign(0), -1);
        due(x.count(8), 77);
        due(x.end(76), true);
        due(x.sign(0), 80);
    }

    private static void promise3() {
        PieceBook x = new PieceBook();
        due(x.end(0), true);
        due(x.end(1), false);
        due(x.end(-1), false);
        due(x.end(Integer.MIN_VALUE), false);
        x.sign(0x61626364);
        due(x.end(5), false);
        due(x.count(8), 4);
        due(x.end(4), true);
        due(x.end(2), true);
        due(x.count(8), 2);
        due(x.end(3), false);
        x.inserts(0);
        due(shown(x), "ab");
    }

    private static void promise4() {
        PieceBook x = new PieceBook();
        due(text(x, "ab\nc").opens(3), 12);
        due(shown(x), "ab/cab/cab/c");
        due(pieces(x), "0.0+12");
        due(x.count(8), 0);
        put(x, 2, "xy");
        x.marks(3, 4, 1);
        x.keep(0);
        x.undo();
        due(text(x, "q").opens(1), 1);
        due(x.count(3) + x.count(4) + x.count(5) + x.count(6), 0);
        due(x.again(0), false);
        due(x.store(0, 0), 1);
        due(pieces(x), "0.0+1");
        due(text(x, "a" + (char) 0).opens(1), -2);
        due(text(x, "ab" + (char) 128).opens(0), -3);
        due(text(x, (char) 255 + "").opens(1), -1);
        due(text(x, "abc").opens(0), -100);
        due(x.count(8), 0);
        due(text(x, "abc").opens(21), -100);
        due(x.opens(-1), -100);
        due(shown(x), "q");
        due(text(x, "a".repeat(80)).opens(20), 1600);
        due(text(x, (char) 1 + "" + (char) 127).opens(1), 2);
        due(x.opens(20), 0);
        due(x.count(2) + x.count(0) + x.store(0, 0), 0);
        // A refused opens() is as if it had not been, for those that type; another is not.
        typeAll(x, 0, "ab");
        text(x, "z").opens(21);
        x.type(2, 'c');
        due(x.count(4), 1);
        x.opens(1);
        x.type(0, 'x');
        text(x, "ab").opens(1);
        x.type(1, 'x');
        due(x.count(4), 1);
        due(shown(x), "axb");
    }

    private static void promise5() {
        PieceBook x = open("a\nb\n\n");
        put(x, 2, "\nx");
        due(x.store(0, 0), 5);
        due(x.store(0, 1), 3);
        due(x.store(0, 2), 2);
        due(x.store(1, 0), 2);
        due(x.store(1, 1), 1);
        due(x.store(1, 2), 1);
        x.undo();
        due(x.store(1, 1), 1);
        due(x.store(1, 2), 0);
        dueNoSuchElement(() -> x.store(2, 0));
        dueNoSuchElement(() -> x.store(-1, 0));
        dueNoSuchElement(() -> x.store(0, 3));
        dueNoSuchElement(() -> x.store(1, -1));
    }

    // ---- what is done

    private static void promise6() {
        PieceBook x = open("abcd");
        due(text(x, "xy").inserts(2), 6);
        due(shown(x), "abxycd");
        due(pieces(x), "0.0+2 1.0+2 0.2+2");
        due(x.count(8), 0);
        due(text(x, "z").inserts(4), 7);
        due(pieces(x), "0.0+2 1.0+3 0.2+2");
        due(text(x, "q").inserts(4), 8);
        due(pieces(x), "0.0+2 1.0+2 1.3+1 1.2+1 0.2+2");
        due(text(x, "e").inserts(8), 9);
        due(text(x, "s").inserts(0), 10);
        due(shown(x), "sabxyqzcde");
        due(x.count(4), 5);
        due(x.inserts(3), 10);
        due(x.count(4), 5);
        due(text(x, "ab" + (char) 200).inserts(99), -3);
        due(text(x, "ab").inserts(11), -100);
        due(x.inserts(11), -100);
        due(text(x, "ab").inserts(-1), -100);
        due(x.count(8), 0);
        due(shown(x), "sabxyqzcde");
        PieceBook full = nearlyFull();
        due(text(full, "b".repeat(41)).inserts(0), -101);
        due(text(full, "b".repeat(40)).inserts(0), 3000);
        due(text(full, "b").inserts(3001), -100);
        PieceBook spent = filled(5999);
        due(text(spent, "bc").inserts(0), -102);
        due(text(spent, "b").inserts(0), 801);
        due(text(spent, "b").inserts(0), -102);
        // The end of the original is no end of the added.
        PieceBook whole = openTimes("a".repeat(80), 20);
        due(text(whole, "b").inserts(1600), 1601);
        due(pieces(whole), "0.0+1600 1.0+1");
        // After an undo the added goes on: no piece ends there any more.
        PieceBook y = open("a");
        put(y, 1, "bc");
        y.undo();
        put(y, 1, "de");
        due(pieces(y), "0.0+1 1.2+2");
    }

    private static void promise7() {
        PieceBook x = new PieceBook();
        due(x.type(0, 'a'), 1);
        due(x.type(1, 'b'), 2);
        due(x.type(2, 'c'), 3);
        due(x.count(4), 1);
        due(pieces(x), "1.0+3");
        due(x.type(2, 'd'), 4);
        due(x.count(4), 2);
        due(pieces(x), "1.0+2 1.3+1 1.2+1");
        due(x.type(0, 127), 5);
        due(x.type(0, 1), 6);
        due(x.type(0, 0), -1);
        due(x.type(0, 128), -1);
        due(x.type(99, 0), -1);
        due(x.type(7, 'a'), -2);
        due(x.type(-1, 'a'), -2);
        PieceBook full = nearlyFull();
        text(full, "b".repeat(39)).inserts(0);
        due(full.type(0, 'c'), 3000);
        due(full.type(0, 'c'), -3);
        due(full.type(3001, 'c'), -2);
        PieceBook spent = filled(5999);
        due(spent.type(0, 'c'), 801);
        due(spent.type(1, 'c'), -4);
        due(spent.type(900, 'c'), -2);
    }

    /** What stands between two type()s that would else be of one edit. */
    private static void promise7between() {
        for (int between = 0; between < 22; between++) {
            PieceBook x = open("q");
            x.keep(1);
            x.type(1, 'a');
            int edits = 1;
            boolean parted = true;
            switch (between) {
                case 0: x.marks(0, 0, 0); break;
                case 1: x.marks(0, -1, 0); break;
                case 2: x.moves(0, 1, 0); edits = 2; break;
                case 3: x.lays(0, 1, 2); edits = 2; break;
                case 4: x.again(1); edits = 0; x.type(1, 'a'); x.again(1); put(x, 1, "b"); edits = 1; break;
                case 5: x.undo(); x.redo(); break;
                case 6: put(x, 2, "b"); edits = 2; break;
                default: parted = false;
            }
            switch (between) {
                case 7: x.marks(8, 0, 0); break;
                case 8: x.marks(0, 9, 0); break;
                case 9: x.moves(0, 3, 0); break;
                case 10: x.heals(); break;
                case 11: x.inserts(0); break;
                case 12: x.puts(0, 0); break;
                case 13: x.day(); break;
                case 14: x.keep(0); break;
                case 15: x.again(2); break;
                case 16: x.redo(); break;
                case 17: x.type(9, 'z'); x.type(0, 0); break;
                case 18: text(x, "abcd").finds(0); x.years(5, 40); x.differs(1); break;
                case 19: text(x, "x").day(); break;
                case 20: x.cuts(5); x.indents(0, 0, 9); x.takes(0, 9); x.lays(9, 9, 9); break;
                case 21: text(x, "d999901").day(); break;
                default: break;
            }
            x.type(2, 'b');
            due(between + ": " + x.count(4), between + ": " + (parted ? edits + 1 : edits));
        }
    }

    private static void promise8() {
        PieceBook x = open("ab\ncd\n");
        put(x, 3, "xy");
        due(pieces(x), "0.0+3 1.0+2 0.3+3");
        due(x.takes(2, 3), 1);
        due(shown(x), "abcd/");
        due(pieces(x), "0.0+2 0.3+3");
        due(x.takes(3, 2), 1);
        due(x.takes(1, 1), 0);
        due(pieces(x), "0.0+1 0.3+1");
        due(x.count(4), 4);
        due(x.takes(1, 2), -2);
        due(x.takes(2, 1), -2);
        due(x.takes(0, Integer.MAX_VALUE), -2);
        due(x.takes(Integer.MAX_VALUE, Integer.MAX_VALUE), -2);
        due(x.takes(9, 0), -1);
        due(x.takes(-1, 1), -1);
        due(x.takes(0, -1), -1);
        due(x.takes(0, 2), 0);
        due(x.count(2), 0);
        PieceBook y = open("abcdef");
        due(y.takes(2, 2), 0);
        due(pieces(y), "0.0+2 0.4+2");
    }

    private static void promise9() {
        PieceBook x = open("abcdef");
        due(text(x, "XYZ").puts(1, 2), 7);
        due(shown(x), "aXYZdef");
        due(pieces(x), "0.0+1 1.0+3 0.3+3");
        due(x.count(4), 1);
        due(x.count(8), 0);
        due(x.puts(4, 3), 4);
        due(shown(x), "aXYZ");
        due(x.count(4), 2);
        due(text(x, "!").puts(4, 0), 5);
        due(pieces(x), "0.0+1 1.0+4");
        due(x.puts(5, 0), 5);
        due(x.count(4), 3);
        due(text(x, "a" + (char) 0).puts(99, -1), -2);
        due(text(x, "a").puts(4, 2), -100);
        due(text(x, "a").puts(-1, 0), -100);
        due(text(x, "a").puts(0, -1), -100);
        due(text(x, "a").puts(6, 0), -100);
        due(x.puts(6, 0), -100);
        due(x.count(8), 0);
        x.undo();
        x.undo();
        x.undo();
        due(shown(x), "abcdef");
        PieceBook full = nearlyFull();
        due(text(full, "b".repeat(44)).puts(0, 3), -101);
        due(text(full, "b".repeat(43)).puts(0, 3), 3000);
        PieceBook spent = filled(5999);
        due(text(spent, "bc").puts(0, 700), -102);
        due(text(spent, "b").puts(0, 700), 101);
        // A piece that ended with the added till its end was taken does so no more.
        PieceBook y = new PieceBook();
        put(y, 0, "abc");
        due(text(y, "d").puts(2, 1), 3);
        due(pieces(y), "1.0+2 1.3+1");
        // One that shows no more than that end goes on.
        due(text(y, "e").puts(0, 2), 2);
        due(pieces(y), "1.4+1 1.3+1");
    }

    private static void promise10() {
        PieceBook x = open("abcdef");
        due(x.lays(1, 2, 4), 8);
        due(shown(x), "abcdbcef");
        due(pieces(x), "0.0+4 0.1+2 0.4+2");
        due(x.lays(3, 3, 4), 11);
        due(shown(x), "abcddbcbcef");
        due(pieces(x), "0.0+4 0.3+1 0.1+2 0.1+2 0.4+2");
        due(x.lays(0, 1, 11), 12);
        due(x.count(3), 0);
        due(x.count(4), 3);
        due(x.lays(0, 13, 0), -2);
        due(x.lays(0, 1, 13), -2);
        due(x.lays(12, 1, 0), -2);
        due(x.lays(0, 0, 99), -1);
        due(x.lays(-1, 1, 0), -1);
        due(x.lays(0, 1, -1), -1);
        due(x.lays(Integer.MAX_VALUE, Integer.MAX_VALUE, 0), -2);
        PieceBook inside = open("abcd");
        due(inside.lays(0, 4, 2), 8);
        due(shown(inside), "ababcdcd");
        due(pieces(inside), "0.0+2 0.0+4 0.2+2");
        PieceBook full = nearlyFull();
        due(full.lays(0, 41, 0), -3);
        due(full.lays(0, 40, 0), 3000);
        due(full.lays(0, 40, 3001), -2);
    }

    private static void promise11() {
        PieceBook x = open("abcdef");
        due(x.moves(1, 2, 5), 3);
        due(shown(x), "adebcf");
        due(pieces(x), "0.0+1 0.3+2 0.1+2 0.5+1");
        due(x.moves(3, 3, 0), 0);
        due(shown(x), "bcfade");
        due(x.moves(2, 2, 2), 2);
        due(x.moves(2, 2, 4), 2);
        due(shown(x), "bcfade");
        due(x.count(4), 4);
        due(x.moves(1, 3, 2), -2);
        due(x.moves(1, 3, 3), -2);
        due(x.moves(1, 3, 7), -2);
        due(x.moves(4, 3, 0), -2);
        due(x.moves(1, 0, 99), -1);
        due(x.moves(-1, 1, 0), -1);
        due(x.moves(0, 1, -1), -1);
        due(x.moves(1, Integer.MAX_VALUE, 2), -2);
        PieceBook y = open("abcdefgh");
        due(y.moves(2, 3, 2), 2);
        due(pieces(y), "0.0+2 0.2+3 0.5+3");
        due(y.count(4), 1);
        PieceBook full = openTimes("a".repeat(80), 20);
        full.lays(0, 1400, 0);
        due(full.moves(0, 1500, 3000), 1500);
        due(full.count(0), 3000);
        PieceBook z = open("abcdefgh");
        for (int i = 0; i < 8; i++) {
            z.marks(i, i, i % 2);
        }
        due(z.moves(2, 3, 7), 4);
        due(marked(z), "0@0 1@1 2@2 3@5 4@6 5@2 6@3 7@7");
        PieceBook back = open("abcdefgh");
        for (int i = 0; i < 8; i++) {
            back.marks(i, i, i % 2);
        }
        due(back.moves(5, 2, 1), 1);
        due(marked(back), "0@0 1@3 2@4 3@5 4@6 5@7 6@2 7@7");
        PieceBook stay = open("abcdef");
        stay.marks(0, 2, 0);
        stay.marks(1, 2, 1);
        stay.marks(2, 4, 0);
        stay.marks(3, 4, 1);
        stay.marks(4, 3, 0);
        stay.marks(5, 5, 0);
        due(stay.moves(2, 2, 4), 2);
        due(marked(stay), "0@2 1@4 2@2 3@4 4@3 5@5");
    }

    private static void promise12() {
        PieceBook x = open("ab\n\ncd");
        due(x.cuts(3), -1);
        due(x.cuts(-1), -1);
        due(x.cuts(1), 1);
        due(shown(x), "ab/cd");
        due(x.cuts(1), 3);
        due(shown(x), "ab");
        due(x.cuts(0), 2);
        due(shown(x), "");
        due(x.count(4), 3);
        due(x.cuts(0), -2);
        due(x.cuts(1), -1);
        x.undo();
        x.undo();
        due(x.cuts(0), 3);
        due(shown(x), "cd");
        PieceBook y = open("a\n");
        due(y.cuts(1), 1);
        due(shown(y), "a");
    }

    private static void promise13() {
        PieceBook x = open("ab\ncd\n");
        x.marks(0, 3, 0);
        x.marks(1, 3, 1);
        x.marks(2, 6, 0);
        due(x.indents(0, 1, 2), 10);
        due(shown(x), "  ab/  cd/");
        due(pieces(x), "1.2+2 0.0+3 1.0+2 0.3+3");
        due(marked(x), "0@5 1@7 2@10");
        due(x.count(4), 1);
        due(x.indents(2, 2, 8), 18);
        due(shown(x), "  ab/  cd/        ");
        due(x.indents(0, 3, 1), -2);
        due(x.indents(-1, 0, 1), -2);
        due(x.indents(1, 0, 1), -2);
        due(x.indents(5, 1, 0), -1);
        due(x.indents(0, 0, 9), -1);
        x.undo();
        x.undo();
        due(shown(x), "ab/cd/");
        due(x.count(3), 12);
        PieceBook typed = new PieceBook();
        typeAll(typed, 0, "a\n");
        due(typed.indents(1, 1, 1), 3);
        due(pieces(typed), "1.0+3");
        PieceBook full = nearlyFull();
        put(full, 0, "\n".repeat(20));
        due(full.indents(0, 20, 1), -3);
        due(full.indents(0, 19, 1), 3000);
        PieceBook spent = filled(5999);
        due(spent.indents(0, 1, 1), -4);
        due(spent.indents(0, 0, 1), 801);
        due(spent.indents(0, 801, 8), -2);
    }

    private static void promise14() {
        PieceBook x = open("abcdef");
        due(x.heals(), 0);
        due(x.count(4), 0);
        x.moves(1, 2, 1);
        due(pieces(x), "0.0+1 0.1+2 0.3+3");
        due(x.heals(), 2);
        due(pieces(x), "0.0+6");
        due(x.count(4), 2);
        x.undo();
        due(pieces(x), "0.0+1 0.1+2 0.3+3");
        x.lays(0, 1, 6);
        due(x.heals(), 2);
        due(pieces(x), "0.0+6 0.0+1");
        due(x.heals(), 0);
        // Where the original ends no piece of the added goes on.
        PieceBook whole = openTimes("a".repeat(80), 20);
        put(whole, 1600, "b");
        due(whole.heals(), 0);
        due(whole.count(2), 2);
        PieceBook other = open("ab");
        put(other, 1, "xy");
        due(other.heals(), 0);
    }

    private static void promise15() {
        PieceBook x = open("abcd");
        due(x.marks(0, 4, 0), 4);
        due(x.marks(7, 0, 1), 0);
        due(x.count(4), 0);
        due(marked(x), "0@4 7@0");
        due(x.marks(0, 5, 0), -2);
        due(x.marks(0, -2, 0), -2);
        due(x.marks(8, -1, 0), -3);
        due(x.marks(-1, 9, 0), -3);
        due(x.marks(0, 9, 2), -3);
        due(x.marks(0, 9, -1), -3);
        due(marked(x), "0@4 7@0");
        due(x.marks(0, -1, 1), -1);
        due(marked(x), "7@0");
        x.marks(1, 2, 0);
        x.marks(2, 2, 1);
        x.marks(3, 3, 0);
        put(x, 2, "xx");
        due(marked(x), "1@2 2@4 3@5 7@0");
        x.lays(0, 1, 2);
        due(marked(x), "1@2 2@5 3@6 7@0");
        x.takes(2, 3);
        due(marked(x), "1@2 2@2 3@3 7@0");
        x.marks(4, 2, 0);
        x.takes(1, 2);
        due(marked(x), "1@1 2@1 3@1 4@1 7@0");
        x.takes(0, 1);
        due(marked(x), "1@0 2@0 3@0 4@0 7@0");
    }

    private static void promise16() {
        PieceBook x = new PieceBook();
        due(text(x, "i0000ai0001/i0002z").day(), 3);
        due(row(x), "0 3");
        due(shown(x), "a/z");
        due(x.count(4), 1);
        due(x.count(8), 0);
        due(text(x, "i0003qd000101l000002" + "0003").day(), 3);
        due(shown(x), "azqaz");
        due(x.count(4), 3);
        due(text(x, "m0000020005hur").day(), 4);
        due(row(x), "0 5");
        due(shown(x), "qazaz");
        due(text(x, "d000009h").day(), 0);
        due(row(x), "1 5");
        due(text(x, "d000000").day(), 0);
        due(row(x), "1 5");
        due(text(x, "hr").day(), 1);
        due(row(x), "1 5");
        due(text(x, "i0000b" + "i9999c" + "i0000d").day(), 1);
        due(row(x), "1 6");
        due(x.day(), 0);
        due(row(x), "0 6");
        String before = row(x);
        due(text(x, "hx").day(), -2);
        due(text(x, "i000").day(), -5);
        due(text(x, "i000a").day(), -5);
        due(text(x, "i0000A").day(), -6);
        due(text(x, "i0000").day(), -6);
        due(text(x, "i00000").day(), -6);
        due(text(x, "d00000a").day(), -7);
        due(text(x, "l00000000").day(), -10);
        due(text(x, "m000000000a").day(), -11);
        due(text(x, "hh" + (char) 200).day(), -3);
        due(text(x, "hd0000011").day(), -9);
        due(row(x), before);
        due(x.count(8), 0);
        due(shown(x), "bqazaz");
        // What a day types belongs to what was typed ahead of it, and the other way round.
        PieceBook y = new PieceBook();
        y.type(0, 'a');
        text(y, "i0001bi0002c").day();
        y.type(3, 'd');
        due(y.count(4), 1);
        due(text(y, "i0004eui0000f").day(), 3);
        due(shown(y), "f");
        due(y.count(4), 1);
        PieceBook z = new PieceBook();
        due(text(z, "h".repeat(80)).day(), 80);
    }

    private static void promise17() {
        PieceBook x = open("ab");
        due(x.undo(), -1);
        x.marks(0, 1, 0);
        typeAll(x, 2, "cde");
        x.takes(0, 1);
        due(x.undo(), 1);
        due(shown(x), "abcde");
        due(x.undo(), 0);
        due(shown(x), "ab");
        due(x.count(3), 3);
        due(x.undo(), -1);
        PieceBook y = new PieceBook();
        for (int i = 0; i < 35; i++) {
            y.type(0, 'a' + i % 26);
        }
        due(y.count(4), 30);
        for (int i = 29; i >= 0; i--) {
            due(y.undo(), i);
        }
        due(y.undo(), -1);
        due(y.count(0), 5);
        due(y.count(5), 30);
        // Marks come back as they were ahead of the edit; one set since is lost.
        PieceBook z = open("abc");
        z.marks(0, 2, 0);
        z.takes(0, 1);
        z.marks(1, 1, 0);
        z.undo();
        due(marked(z), "0@2");
        due(pieces(z), "0.0+3");
    }

    private static void promise18() {
        PieceBook x = open("ab");
        due(x.redo(), -1);
        x.takes(0, 1);
        x.type(0, 'x');
        x.marks(2, 1, 0);
        x.undo();
        x.undo();
        due(x.redo(), 1);
        due(shown(x), "b");
        due(marked(x), "");
        due(x.redo(), 0);
        due(shown(x), "xb");
        due(marked(x), "2@1");
        due(x.redo(), -1);
        due(x.count(4), 2);
        // Of one that was done again: undone to what was ahead of that redo().
        x.undo();
        x.marks(3, 1, 1);
        due(x.count(5), 1);
        x.redo();
        due(marked(x), "2@1");
        x.undo();
        due(marked(x), "3@1");
        // Another edit ends what can be done again; a mark, a question, what is refused do not.
        x.inserts(0);
        x.heals();
        x.takes(5, 5);
        due(x.count(5), 1);
        x.type(0, 'q');
        due(x.count(5), 0);
        due(x.redo(), -1);
    }

    // ---- signs, lines, places

    private static void promise19() {
        PieceBook x = open("ab");
        put(x, 1, "x");
        due(x.at(0), 'a');
        due(x.at(1), 'x');
        due(x.at(2), 'b');
        due(x.at(3), -1);
        due(x.at(-1), -1);
        due(x.at(Integer.MAX_VALUE), -1);
    }

    private static void promise20() {
        PieceBook x = open("abcdefghijklmnopqrst");
        due(x.reads(2, 3), 3);
        due(row(x), "99 100 101");
        due(x.reads(18, 16), 2);
        due(row(x), "115 116");
        due(x.reads(0, 16), 16);
        due(x.count(7), 16);
        due(x.reads(0, 17), -1);
        due(x.reads(0, 0), -1);
        due(x.reads(21, 1), -1);
        due(x.reads(-1, 1), -1);
        due(x.count(7), 16);
        due(x.reads(20, 1), 0);
        due(x.count(7), 0);
    }

    private static void promise21() {
        PieceBook x = open("ab\n\nc");
        int[] lines = {0, 0, 0, 1, 2, 2};
        int[] ahead = {0, 1, 2, 0, 0, 1};
        for (int p = 0; p < 6; p++) {
            due(x.line(p), lines[p]);
            due(x.row(0), ahead[p]);
            due(x.count(7), 1);
        }
        due(x.line(6), -1);
        due(x.line(-1), -1);
        due(row(x), "1");
    }

    private static void promise22() {
        PieceBook x = open("ab\n\nc");
        due(x.starts(0), 0);
        due(row(x), "2");
        due(x.starts(1), 3);
        due(row(x), "0");
        due(x.starts(2), 4);
        due(row(x), "1");
        due(x.starts(3), -1);
        due(x.starts(-1), -1);
        due(row(x), "1");
        PieceBook y = open("a\n");
        due(y.starts(1), 2);
        due(row(y), "0");
    }

    private static void promise23() {
        PieceBook x = open("ab\ncde");
        due(x.place(0, 1), 1);
        due(row(x), "1");
        due(x.place(0, 2), 2);
        due(x.place(0, 9), 2);
        due(row(x), "2");
        due(x.place(1, Integer.MAX_VALUE), 6);
        due(row(x), "3");
        due(x.place(1, 0), 3);
        due(row(x), "0");
        due(x.place(2, 0), -1);
        due(x.place(-1, 0), -1);
        due(x.place(0, -1), -1);
        due(row(x), "0");
    }

    private static void promise24() {
        PieceBook x = open("\nab\ncd\n");
        due(x.longest(), 1);
        due(row(x), "2 2");
        put(x, 7, "xyz");
        due(x.longest(), 3);
        due(row(x), "3 1");
        PieceBook y = open("\n\n");
        due(y.longest(), 0);
        due(row(y), "0 3");
    }

    private static void promise25() {
        PieceBook x = open("ab");
        x.marks(7, 2, 0);
        due(x.mark(7), 2);
        due(x.mark(0), -2);
        due(x.mark(8), -1);
        due(x.mark(-1), -1);
    }

    private static void promise26() {
        PieceBook x = open("abcdef");
        x.marks(0, 2, 0);
        x.marks(3, 4, 0);
        x.marks(7, 6, 0);
        due(x.between(2, 4), 9);
        due(row(x), "2");
        due(x.between(3, 3), 0);
        due(row(x), "0");
        due(x.between(Integer.MIN_VALUE, Integer.MAX_VALUE), 137);
        due(row(x), "3");
        due(x.between(-1, -1), 0);
        due(x.between(4, 3), -1);
        due(row(x), "0");
    }

    // ---- pieces

    private static void promise27() {
        PieceBook x = open("a\nb\nc");
        put(x, 4, "\nx");
        String[] due = {"0 0 4 2 0", "1 0 2 1 4", "0 4 1 0 6"};
        for (int i = 0; i < 3; i++) {
            StringBuilder b = new StringBuilder();
            for (int what = 0; what < 5; what++) {
                b.append(what == 0 ? "" : " ").append(x.piece(i, what));
            }
            due(b.toString(), due[i]);
        }
        dueNoSuchElement(() -> x.piece(3, 0));
        dueNoSuchElement(() -> x.piece(-1, 0));
        dueNoSuchElement(() -> x.piece(0, 5));
        dueNoSuchElement(() -> x.piece(0, -1));
    }

    private static void promise28() {
        PieceBook x = open("abcd");
        put(x, 2, "xy");
        due(x.shows(0), 0);
        due(row(x), "0 0 0");
        due(x.shows(3), 1);
        due(row(x), "1 1 1");
        due(x.shows(5), 2);
        due(row(x), "1 0 3");
        due(x.shows(6), -1);
        due(x.shows(-1), -1);
        due(row(x), "1 0 3");
    }

    private static void promise29() {
        PieceBook x = open("abc");
        due(x.from(0, 1), 1);
        due(row(x), "1");
        x.lays(1, 2, 0);
        due(x.from(0, 1), 2);
        due(row(x), "0 3");
        due(x.from(0, 0), 1);
        due(row(x), "2");
        due(x.from(0, 3), -1);
        due(x.from(0, -1), -1);
        due(x.from(1, 0), -1);
        due(x.from(2, 0), -1);
        due(x.from(-1, 0), -1);
        due(row(x), "2");
        put(x, 0, "z");
        x.takes(0, 1);
        due(x.from(2, 0), -1);
        due(x.from(1, 1), -1);
        due(row(x), "2");
        due(x.from(1, 0), 0);
        due(x.count(7), 0);
        for (int i = 0; i < 13; i++) {
            x.lays(0, 1, 0);
        }
        due(x.from(0, 1), 15);
        due(row(x), "0 1 2 3 4 5 6 7 8 9 10 11");
    }

    private static void promise30() {
        PieceBook x = open("abcd");
        due(x.lost(0), 0);
        due(x.count(7), 0);
        x.takes(1, 2);
        due(x.lost(0), 2);
        due(row(x), "1");
        put(x, 0, "xyz");
        x.takes(0, 1);
        x.takes(1, 1);
        due(x.lost(1), 2);
        due(row(x), "0");
        x.undo();
        x.undo();
        x.undo();
        due(x.lost(1), 3);
        x.lays(0, 1, 0);
        due(x.lost(0), 2);
        due(x.lost(2), -1);
        due(x.lost(-1), -1);
        due(row(x), "1");
    }

    private static void promise31() {
        PieceBook x = open("abcdef");
        due(x.healable(), 0);
        due(row(x), "0");
        x.moves(1, 2, 1);
        due(x.healable(), 2);
        due(row(x), "2");
        x.moves(0, 1, 6);
        due(x.healable(), 1);
        due(row(x), "1");
        x.lays(0, 2, 6);
        x.lays(0, 1, 0);
        x.takes(4, 1);
        due(x.healable(), 2);
        due(row(x), "1");
        due(pieces(x), "0.1+1 0.1+2 0.3+1 0.5+1 0.0+1 0.1+2");
        PieceBook whole = openTimes("a".repeat(80), 20);
        put(whole, 1600, "b");
        due(whole.healable(), 0);
    }

    // ---- search

    private static void promise32() {
        PieceBook x = open("abcabc");
        put(x, 3, "X");
        due(text(x, "abc").finds(0), 0);
        due(row(x), "1");
        due(text(x, "abc").finds(1), 4);
        due(text(x, "cXa").finds(0), 2);
        due(row(x), "3");
        due(text(x, "cX").finds(2), 2);
        due(row(x), "2");
        due(text(x, "cX").finds(3), -2);
        due(text(x, "c").finds(7), -2);
        due(x.count(8), 0);
        due(text(x, "abcXabcx").finds(0), -2);
        due(text(x, "c").finds(8), -1);
        due(text(x, "c").finds(-1), -1);
        due(x.finds(-1), -100);
        due(text(x, "" + (char) 0).finds(0), -2);
        due(text(x, "c" + (char) 128).finds(6), -2);
        due(row(x), "2");
    }

    private static void promise33() {
        PieceBook x = open("aaaa");
        put(x, 2, "aX");
        due(text(x, "aa").last(6), 4);
        due(row(x), "1");
        due(text(x, "aa").last(3), 1);
        due(row(x), "2");
        due(text(x, "aa").last(0), 0);
        due(text(x, "aX").last(1), -2);
        due(text(x, "aX").last(2), 2);
        due(text(x, "b").last(6), -2);
        due(text(x, "a").last(7), -1);
        due(text(x, "a").last(-1), -1);
        due(x.last(99), -100);
        due(text(x, "aaaaaaa").last(6), -2);
        due(row(x), "1");
        due(x.count(8), 0);
    }

    private static void promise34() {
        PieceBook x = open("aaaaa");
        due(text(x, "aa").many(), 4);
        due(row(x), "0 2");
        put(x, 2, "a");
        due(text(x, "aa").many(), 5);
        due(row(x), "2 3");
        due(text(x, "b").many(), 0);
        due(row(x), "0 0");
        due(text(x, "aaaaaaa").many(), 0);
        due(x.many(), -100);
        due(row(x), "0 0");
        PieceBook y = open("ababab aba");
        due(text(y, "aba").many(), 3);
        due(row(y), "0 2");
    }

    private static void promise35() {
        PieceBook x = open("a\nb1 ?#x");
        due(text(x, "?").fits(1), 2);
        due(row(x), "1");
        due(text(x, "#").fits(0), 3);
        due(text(x, "b#").fits(0), 2);
        due(text(x, "a?").fits(0), -2);
        due(text(x, "a\n?").fits(0), 0);
        due(text(x, "##").fits(0), -2);
        due(text(x, "??x").fits(0), 5);
        due(text(x, "A").fits(0), -2);
        due(text(x, "?").fits(8), -2);
        due(text(x, "?").fits(9), -1);
        due(text(x, "?" + (char) 0).fits(0), -2);
        due(x.fits(0), -100);
        put(x, 3, "2");
        due(text(x, "?##").fits(0), 2);
        due(row(x), "3");
    }

    private static void promise36() {
        PieceBook x = open("xAbC[abc");
        due(text(x, "aBc").folds(0), 1);
        due(row(x), "1");
        due(text(x, "ABC").folds(2), 5);
        due(text(x, "{").folds(0), -2);
        due(text(x, "c[A").folds(0), 3);
        due(text(x, "?").folds(0), -2);
        due(text(x, "a").folds(8), -2);
        due(text(x, "a").folds(9), -1);
        due(text(x, "" + (char) 225).folds(0), -2);
        due(x.folds(-1), -100);
        put(x, 2, "Q");
        due(text(x, "aqb").folds(0), 1);
        due(row(x), "3");
        PieceBook y = open("@`z");
        due(text(y, "`").folds(0), 1);
        due(text(y, "Z").folds(0), 2);
    }

    // ---- what the book says

    private static void promise37() {
        PieceBook x = open("(a[(b)()]c))");
        due(x.pair(0), 10);
        due(row(x), "1");
        due(x.pair(10), 0);
        due(row(x), "1");
        due(x.pair(3), 5);
        due(row(x), "0");
        due(x.pair(2), 8);
        due(row(x), "0");
        due(x.pair(8), 2);
        due(x.pair(11), -2);
        due(x.pair(1), -3);
        due(x.pair(12), -1);
        due(x.pair(-1), -1);
        due(row(x), "0");
        PieceBook y = open("{{}{{}}}");
        due(y.pair(0), 7);
        due(row(y), "2");
        due(y.pair(7), 0);
        due(row(y), "2");
        due(open("(]").pair(0), -2);
        due(open("[)]").pair(0), 2);
        due(open("((a)").pair(0), -2);
    }

    private static void promise38() {
        PieceBook x = open("a(b[c]{})");
        due(x.nested(), -2);
        due(row(x), "");
        PieceBook y = open("([x)]");
        due(y.nested(), 3);
        due(row(y), "2");
        PieceBook z = open("()](((");
        due(z.nested(), 2);
        due(row(z), "1");
        PieceBook open = open("()(a([])");
        due(open.nested(), 2);
        due(row(open), "3");
        PieceBook behind = open("()((");
        due(behind.nested(), 2);
        due(row(behind), "2");
        PieceBook none = open("}");
        due(none.nested(), 0);
        due(row(none), "0");
    }

    private static void promise39() {
        PieceBook x = open("abcabdabca");
        due(x.before(3), 2);
        due(row(x), "0");
        due(x.before(6), 4);
        due(row(x), "0");
        due(x.before(5), 0);
        due(x.count(7), 0);
        due(x.before(0), 0);
        due(x.before(9), 1);
        due(row(x), "0");
        due(x.before(10), -1);
        due(x.before(-1), -1);
        due(row(x), "0");
        PieceBook y = open("aaaa");
        due(y.before(1), 3);
        due(row(y), "0");
        due(y.before(3), 1);
        PieceBook z = open("xabyabcabd");
        due(z.before(7), 2);
        due(row(z), "1");
        PieceBook w = open("babaababa");
        due(w.before(5), 4);
        due(row(w), "0");
        due(w.before(4), 3);
        due(row(w), "1");
    }

    private static void promise40() {
        PieceBook x = open(" ab1-Z_");
        int[] begin = {-2, 1, 1, 1, 1, 5, 5, -2};
        int[] behind = {0, 4, 4, 4, 4, 6, 6, 0};
        for (int p = 0; p < 8; p++) {
            due(x.word(p), begin[p]);
            if (begin[p] >= 0) {
                due(x.row(0), behind[p]);
            }
        }
        due(x.word(8), -1);
        due(x.word(-1), -1);
        due(row(x), "6");
        PieceBook y = open("azAZ09");
        due(y.word(6), 0);
        due(row(y), "6");
        PieceBook z = open("/:@[`{");
        for (int p = 0; p <= 6; p++) {
            due(z.word(p), -2);
        }
    }

    private static void promise41() {
        PieceBook x = open("a bc, de\nf");
        due(x.words(), 4);
        due(row(x), "2 2");
        PieceBook y = open(" ,\n");
        due(y.words(), 0);
        due(y.count(7), 0);
        PieceBook z = open("word");
        due(z.words(), 1);
        due(row(z), "4 0");
    }

    private static void promise42() {
        PieceBook x = open("ab cd efgh\n\nabcdefg");
        due(x.rows(5), 6);
        due(row(x), "5");
        due(x.rows(3), 8);
        due(row(x), "3");
        due(x.rows(10), 3);
        due(row(x), "10");
        due(x.rows(9), 4);
        due(row(x), "7");
        due(x.rows(80), 3);
        due(x.rows(1), 18);
        due(x.rows(0), -1);
        due(x.rows(81), -1);
        due(x.rows(-1), -1);
        due(row(x), "1");
        PieceBook y = open("abc  d\n");
        due(y.rows(4), 3);
        due(row(y), "4");
        due(y.rows(3), 3);
    }

    private static void promise43() {
        PieceBook x = open("banana");
        due(x.tally('a'), 3);
        due(row(x), "1 5");
        due(x.tally('b'), 1);
        due(row(x), "0 0");
        due(x.tally('x'), 0);
        due(x.count(7), 0);
        due(x.tally(0), -1);
        due(x.tally(128), -1);
        due(x.tally(127), 0);
    }

    private static void promise44() {
        PieceBook x = open("abxabyab");
        due(x.alike(0, 3), 2);
        due(row(x), "120 121");
        due(x.alike(3, 6), 2);
        due(row(x), "121 0");
        due(x.alike(6, 0), 2);
        due(row(x), "0 120");
        due(x.alike(1, 1), 7);
        due(row(x), "0 0");
        due(x.alike(0, 8), 0);
        due(row(x), "97 0");
        due(x.alike(0, 9), -1);
        due(x.alike(-1, 0), -1);
        due(x.alike(0, -1), -1);
        due(x.alike(9, 0), -1);
        due(row(x), "97 0");
    }

    private static void promise45() {
        PieceBook x = open("abcdefgh");
        due(x.sum(0, 2), 0);
        due(row(x), Long.toString((7 * 31 + 97) * 31 + 98));
        due(x.sum(0, 8), 0);
        int h = 7;
        for (char c : "abcdefgh".toCharArray()) {
            h = 31 * h + c;
        }
        due(row(x), Integer.toString(h));
        due(x.sum(8, 0), 0);
        due(row(x), "7");
        due(x.sum(8, 1), -2);
        due(x.sum(9, 0), -2);
        due(x.sum(1, Integer.MAX_VALUE), -2);
        due(x.sum(-1, 99), -1);
        due(x.sum(0, -1), -1);
        due(row(x), "7");
    }

    private static void promise46() {
        PieceBook x = open("abcdef");
        due(x.differs(0), 6);
        due(row(x), "0 0");
        text(x, "XY").puts(2, 1);
        due(x.differs(1), 2);
        due(row(x), "2 1");
        x.takes(0, 1);
        due(x.differs(1), 0);
        due(row(x), "0 1");
        due(x.differs(2), 0);
        due(row(x), "3 3");
        due(x.differs(3), -1);
        due(x.differs(-1), -1);
        due(row(x), "3 3");
        PieceBook y = open("aaa");
        y.lays(0, 1, 1);
        due(y.differs(1), 3);
        due(row(y), "1 0");
        y.undo();
        due(y.differs(0), 3);
        due(y.differs(1), -1);
        PieceBook z = open("aaaa");
        z.takes(1, 2);
        due(z.differs(1), 2);
        due(row(z), "0 2");
    }

    private static void promise47() {
        PieceBook x = new PieceBook();
        // Seed 0: 12345 / 65536 is 0, a type(); then the letter, then the place, of one.
        int r = 12345 * 1103515245 + 12345;
        int letter = (r >>> 16) % 26 + 97;
        due(x.years(0, 1), 1);
        due(row(x), (7 * 31 + letter) + " 1 1");
        due(x.count(0) + x.count(3) + x.count(4), 0);
        due(x.years(0, 0), -1);
        due(x.years(0, 41), -1);
        due(x.years(0, -1), -1);
        due(x.count(7), 3);
        // 3 and 2 do nothing, and draw no more, on an empty book: two years are two draws.
        int seed = 0;
        while (true) {
            int first = seed * 1103515245 + 12345;
            int second = first * 1103515245 + 12345;
            if ((first >>> 16) % 4 > 1 && (second >>> 16) % 4 > 1) {
                break;
            }
            seed++;
        }
        due(x.years(seed, 2), 0);
        due(row(x), "7 0 0");
        // What is drawn without its sign: a seed whose first draw is above 2^31.
        int below = 0;
        while (below * 1103515245 + 12345 >= 0 || ((below * 1103515245 + 12345) >>> 16) % 4 < 2) {
            below++;
        }
        due(x.years(below, 1), 0);
        PieceBook y = open("abc");
        long[] got = new long[41];
        for (int n = 1; n <= 40; n++) {
            got[n] = y.years(77, n);
        }
        due(y.count(0), 3);
        due(y.count(3), 0);
        due(y.count(4), 0);
        due(pieces(y), "0.0+3");
        due(yearsByHand(77, 40), row(y) + " " + got[40]);
        PieceBook full = nearlyFull();
        put(full, 0, "b".repeat(40));
        due(full.years(5, 40) <= 3000, true);
        PieceBook spent = filled(6000);
        spent.years(5, 40);
        due(spent.row(2), 6000);
    }

    /** The same by the calls themselves on a book abc. */
    private static String yearsByHand(int seed, int n) {
        PieceBook y = open("abc");
        int r = seed;
        for (int i = 0; i < n; i++) {
            r = r * 1103515245 + 12345;
            int act = (r >>> 16) % 4;
            if (act < 2) {
                r = r * 1103515245 + 12345;
                int v = (r >>> 16) % 26 + 97;
                r = r * 1103515245 + 12345;
                y.type((r >>> 16) % (y.count(0) + 1), v);
            } else if (y.count(0) > 0) {
                r = r * 1103515245 + 12345;
                int p = (r >>> 16) % y.count(0);
                if (act == 2) {
                    y.takes(p, 1);
                } else {
                    y.lays(p, 1, 0);
                }
            }
        }
        y.sum(0, y.count(0));
        return y.row(0) + " " + y.count(2) + " " + y.count(3) + " " + y.count(0);
    }

    // ---- kept

    private static void promise48() {
        PieceBook x = open("ab");
        due(x.keep(0), true);
        due(x.keep(2), true);
        due(x.keep(3), false);
        due(x.keep(-1), false);
        x.takes(0, 1);
        x.keep(0);
        x.takes(0, 1);
        due(x.again(0), true);
        due(shown(x), "b");
        due(x.again(2), true);
        due(shown(x), "ab");
    }

    private static void promise49() {
        PieceBook x = open("abcd");
        x.marks(1, 2, 1);
        x.keep(1);
        put(x, 2, "xx");
        x.takes(0, 1);
        x.undo();
        due(x.again(0), false);
        due(x.again(2), false);
        due(x.again(3), false);
        due(x.again(-1), false);
        due(x.count(4) + x.count(5), 2);
        due(x.again(1), true);
        due(shown(x), "abcd");
        due(pieces(x), "0.0+4");
        due(marked(x), "1@2");
        due(x.count(4) + x.count(5), 0);
        due(x.undo(), -1);
        due(x.redo(), -1);
        due(x.count(3), 2);
        put(x, 2, "y");
        due(marked(x), "1@3");
        due(pieces(x), "0.0+2 1.2+1 0.2+2");
        due(x.again(1), true);
        due(shown(x), "abcd");
        due(marked(x), "1@2");
    }

    private static void promise50() {
        PieceBook x = open("a\nb\n");
        put(x, 1, "xyz");
        x.takes(0, 1);
        x.undo();
        x.marks(0, 0, 0);
        x.marks(5, 7, 0);
        x.reads(0, 3);
        text(x, "ab");
        int[] due = {7, 3, 3, 3, 1, 1, 33, 3, 2};
        for (int what = 0; what < 9; what++) {
            due(x.count(what), due[what]);
        }
        due(x.count(9), -100);
        due(x.count(-1), -100);
    }

    private static void promise51() {
        PieceBook x = open("abc");
        dueNoSuchElement(() -> x.row(0));
        x.reads(1, 2);
        due(x.row(0), 98);
        due(x.row(1), 99);
        dueNoSuchElement(() -> x.row(2));
        dueNoSuchElement(() -> x.row(-1));
        x.type(0, 'q');
        x.undo();
        due(x.row(1), 99);
        x.line(0);
        dueNoSuchElement(() -> x.row(1));
        due(x.row(0), 0);
    }

    private interface Promise {
        void test();
    }

    public static void main(String[] args) {
        Promise[] all = {PromisesTest::promise1, PromisesTest::promise2, PromisesTest::promise3,
            PromisesTest::promise4, PromisesTest::promise5, PromisesTest::promise6, PromisesTest::promise7,
            PromisesTest::promise8, PromisesTest::promise9, PromisesTest::promise10, PromisesTest::promise11,
            PromisesTest::promise12, PromisesTest::promise13, PromisesTest::promise14, PromisesTest::promise15,
            PromisesTest::promise16, PromisesTest::promise17, PromisesTest::promise18, PromisesTest::promise19,
            PromisesTest::promise20, PromisesTest::promise21, PromisesTest::promise22, PromisesTest::promise23,
            PromisesTest::promise24, PromisesTest::promise25, PromisesTest::promise26, PromisesTest::promise27,
            PromisesTest::promise28, PromisesTest::promise29, PromisesTest::promise30, PromisesTest::promise31,
            PromisesTest::promise32, PromisesTest::promise33, PromisesTest::promise34, PromisesTest::promise35,
            PromisesTest::promise36, PromisesTest::promise37, PromisesTest::promise38, PromisesTest::promise39,
            PromisesTest::promise40, PromisesTest::promise41, PromisesTest::promise42, PromisesTest::promise43,
            PromisesTest::promise44, PromisesTest::promise45, PromisesTest::promise46, PromisesTest::promise47,
            PromisesTest::promise48, PromisesTest::promise49, PromisesTest::promise50, PromisesTest::promise51};
        for (int promise = 1; promise <= all.length; promise++) {
            about("promise " + promise);
            all[promise - 1].test();
        }
        about("promise 7");
        promise7between();
        finish("PromisesTest");
    }
}
