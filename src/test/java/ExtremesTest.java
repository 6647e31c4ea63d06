import java.lang.reflect.InvocationTargetException;
import java.lang.reflect.Method;
import java.lang.reflect.Modifier;
import java.util.Arrays;
import java.util.List;
import java.util.NoSuchElementException;

/**
 * Each call with each number that lies about a limit of the document, and with the least and the most that there are,
 * on an empty book, a small one, full ones and one of which all is spent: PieceBook and Model side by side. A book is
 * asked more than 512 times here, which the document leaves free; the class counts no calls.
 */
public final class ExtremesTest extends Asking {
    private static final int[] MANY = {Integer.MIN_VALUE, Integer.MIN_VALUE + 1, -3000, -100, -3, -2, -1, 0, 1, 2, 3,
        5, 7, 8, 9, 12, 16, 17, 20, 21, 24, 25, 26, 40, 41, 80, 81, 127, 128, 800, 801, 1599, 1600, 1601, 2999, 3000,
        3001, 5999, 6000, 6001, Integer.MAX_VALUE - 3000, Integer.MAX_VALUE - 1, Integer.MAX_VALUE};
    private static final int[] FEW = {Integer.MIN_VALUE, -2, -1, 0, 1, 2, 7, 8, 9, 24, 25, 800, 1600, 2999, 3000, 3001,
        Integer.MAX_VALUE - 1, Integer.MAX_VALUE};
    private static final String[] TEXTS = {"", "a", "\n?", "a" + (char) 0, "b".repeat(80)};
    private static final List<String> READING = List.of("opens", "inserts", "puts", "day", "finds", "last", "many",
        "fits", "folds");
    private static final List<String> CHANGING = List.of("opens", "again", "keep", "marks", "undo", "redo", "sign",
        "end");
    private static final long THROWS = Long.MIN_VALUE;

    private final int kind;
    private PieceBook book;
    private Model model;

    private ExtremesTest(int kind) {
        this.kind = kind;
        make();
    }

    public static void main(String[] args) throws ReflectiveOperationException {
        for (int kind = 0; kind < 5; kind++) {
            new ExtremesTest(kind).askAll();
        }
        finish("ExtremesTest");
    }

    private void askAll() throws ReflectiveOperationException {
        for (Method call : PieceBook.class.getDeclaredMethods()) {
            if (!Modifier.isPublic(call.getModifiers())) {
                continue;
            }
            int[] values = call.getParameterCount() < 3 ? MANY : FEW;
            int combinations = (int) Math.round(Math.pow(values.length, call.getParameterCount()));
            for (String text : READING.contains(call.getName()) ? TEXTS : new String[] {null}) {
                for (int c = 0; c < combinations; c++) {
                    ask(call, drawnFrom(values, c, call.getParameterCount()), text);
                }
            }
        }
    }

    private static Object[] drawnFrom(int[] values, int which, int n) {
        Object[] drawn = new Object[n];
        int rest = which;
        for (int i = 0; i < n; i++) {
            drawn[i] = values[rest % values.length];
            rest /= values.length;
        }
        return drawn;
    }

    private void ask(Method call, Object[] values, String text) throws ReflectiveOperationException {
        about("book " + kind + ", " + call.getName() + Arrays.toString(values)
                + (text == null ? "" : " of " + text.length() + " signs"));
        if (text != null) {
            text(book, text);
            model.text = text;
        }
        int edits = book.count(4);
        int added = book.count(3);
        long got = answer(call, book, values);
        long want = call.getName().equals("row") ? rowDue((Integer) values[0])
                : answer(Model.class.getDeclaredMethod(call.getName(), call.getParameterTypes()), model, values);
        due(got, want);
        compare();
        boolean changed = got >= 0 && CHANGING.contains(call.getName());
        if (changed || book.count(3) != added || book.count(4) < edits) {
            make();
        } else if (book.count(4) > edits) {
            due(book.undo(), model.undo());
        }
    }

    private static long answer(Method call, Object on, Object[] values) throws ReflectiveOperationException {
        try {
            Object got = call.invoke(on, values);
            return got == null ? THROWS : got instanceof Boolean ? bit((Boolean) got) : ((Number) got).longValue();
        } catch (InvocationTargetException e) {
            if (e.getCause() instanceof NoSuchElementException) {
                return THROWS;
            }
            tellWrong("threw " + e.getCause());
            return THROWS + 1;
        }
    }

    private long rowDue(int i) {
        return i >= 0 && i < model.row.length ? model.row[i] : THROWS;
    }

    private void compare() {
        for (int what = 0; what < 9; what++) {
            due(book.count(what), model.count(what));
        }
        for (int i = 0; i < model.row.length && i < book.count(7); i++) {
            due(book.row(i), model.row[i]);
        }
    }

    private void make() {
        book = new PieceBook();
        model = new Model();
        switch (kind) {
            case 0:
                break;
            case 1:
                makeSmall();
                break;
            case 2:
                open("a".repeat(80), 20);
                due(book.lays(0, 1400, 0), model.lays(0, 1400, 0));
                break;
            case 3:
                open("\n".repeat(80), 20);
                due(book.lays(0, 1360, 0), model.lays(0, 1360, 0));
                break;
            default:
                open("ab(\n".repeat(20), 10);
                spend();
        }
    }

    private void open(String text, int n) {
        text(book, text);
        model.text = text;
        due(book.opens(n), model.opens(n));
    }

    /** All is added that can be, and shown no more: of the model at once, as it would take long. */
    private void spend() {
        model.stores[1].append(" ".repeat(6000));
        for (int i = 0; i < 30; i++) {
            book.indents(0, 24, 8);
            book.undo();
        }
        due(book.takes(0, 1), model.takes(0, 1));
        due(book.undo(), model.undo());
    }

    private void makeSmall() {
        open("ab\n(c d)\nx1 AB", 1);
        text(book, "one two");
        model.text = "one two";
        due(book.inserts(4), model.inserts(4));
        due(book.keep(0), model.keep(0));
        due(book.lays(0, 3, 20), model.lays(0, 3, 20));
        due(book.marks(1, 4, 1), model.marks(1, 4, 1));
        due(book.marks(7, 24, 0), model.marks(7, 24, 0));
        due(book.takes(1, 1), model.takes(1, 1));
        due(book.type(4, 'q'), model.type(4, 'q'));
        due(book.takes(5, 1), model.takes(5, 1));
        due(book.undo(), model.undo());
    }
}
