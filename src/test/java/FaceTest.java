import java.lang.reflect.Constructor;
import java.lang.reflect.Field;
import java.lang.reflect.Method;
import java.lang.reflect.Modifier;
import java.nio.file.Files;
import java.nio.file.Path;
import java.util.ArrayList;
import java.util.List;
import java.util.TreeSet;
import java.util.regex.Matcher;
import java.util.regex.Pattern;

/** The face as the document tells it, and those rules of LANGUAGE.md that can be seen without running. */
public final class FaceTest {
    private static final String[] FACE = {
        "int sign(int)", "boolean end(int)", "int opens(int)", "int store(int,int)", "int inserts(int)",
        "int type(int,int)", "int takes(int,int)", "int puts(int,int)", "int lays(int,int,int)",
        "int moves(int,int,int)", "int cuts(int)", "int indents(int,int,int)", "int heals()",
        "int marks(int,int,int)", "int day()", "int undo()", "int redo()", "int at(int)", "int reads(int,int)",
        "int line(int)", "int starts(int)", "int place(int,int)", "int longest()", "int mark(int)",
        "int between(int,int)", "int piece(int,int)", "int shows(int)", "int from(int,int)", "int lost(int)",
        "int healable()", "int finds(int)", "int last(int)", "int many()", "int fits(int)", "int folds(int)",
        "int pair(int)", "int nested()", "int before(int)", "int word(int)", "int words()", "int rows(int)",
        "int tally(int)", "int alike(int,int)", "int sum(int,int)", "int differs(int)", "int years(int,int)",
        "boolean keep(int)", "boolean again(int)", "int count(int)", "long row(int)"};
    private static final String[] FORBIDDEN = {"\\bcatch\\b", "\\btry\\b", "\\bfinally\\b", "->", "::",
        "\\bsynchronized\\b", "\\bassert\\b", "\\bInteger\\.parse", "Exact\\(", "\\bRandom\\b", "\\bSystem\\.(?!arraycopy)",
        "\\bThread\\b", "\\bString\\.", "\\bMath\\.random", "\\bStringBuilder\\b", "\\bimport java\\.util\\.(?!Arrays;|NoSuchElementException;)"};

    private static final List<String> WRONG = new ArrayList<>();

    public static void main(String[] args) throws Exception {
        face();
        classes();
        source(Files.readString(Path.of(args.length > 0 ? args[0] : "src/main/java/PieceBook.java")));
        for (String w : WRONG) {
            System.out.println("FaceTest: " + w);
        }
        System.out.println("FaceTest: " + WRONG.size() + " wrong");
        if (!WRONG.isEmpty()) {
            System.exit(1);
        }
    }

    private static void due(boolean holds, String otherwise) {
        if (!holds) {
            WRONG.add(otherwise);
        }
    }

    private static void face() {
        Class<?> c = PieceBook.class;
        due(Modifier.isPublic(c.getModifiers()) && Modifier.isFinal(c.getModifiers()), "the class is public and final");
        TreeSet<String> due = new TreeSet<>(List.of(FACE));
        TreeSet<String> got = new TreeSet<>();
        TreeSet<String> hidden = new TreeSet<>();
        for (Method m : c.getDeclaredMethods()) {
            if (Modifier.isPrivate(m.getModifiers())) {
                hidden.add(m.getName());
                continue;
            }
            StringBuilder b = new StringBuilder(m.getReturnType() + " " + m.getName() + "(");
            for (Class<?> p : m.getParameterTypes()) {
                b.append(b.charAt(b.length() - 1) == '(' ? "" : ",").append(p);
            }
            got.add(b.append(')').toString());
        }
        for (Class<?> inside : c.getDeclaredClasses()) {
            for (Method m : inside.getDeclaredMethods()) {
                hidden.add(m.getName());
            }
        }
        due(got.equals(due), "the methods are " + got);
        for (String call : FACE) {
            String name = call.substring(call.indexOf(' ') + 1, call.indexOf('('));
            due(!hidden.contains(name), "a private method bears the name of a public one: " + name);
        }
        for (Field f : c.getDeclaredFields()) {
            boolean told = f.getName().equals("NONE");
            due(told ? Modifier.isPublic(f.getModifiers()) : Modifier.isPrivate(f.getModifiers()), f + " is of another face");
        }
        Constructor<?>[] makers = c.getDeclaredConstructors();
        due(makers.length == 1 && Modifier.isPublic(makers[0].getModifiers())
                && makers[0].getParameterCount() == 0, "one public constructor without parameters");
    }

    private static void classes() {
        List<Class<?>> all = new ArrayList<>(List.of(PieceBook.class.getDeclaredClasses()));
        due(all.size() <= 11, "too many classes");
        for (Class<?> c : all) {
            due(Modifier.isStatic(c.getModifiers()) && !Modifier.isPublic(c.getModifiers()), c + " is not static");
        }
        all.add(PieceBook.class);
        for (Class<?> c : all) {
            int fields = 0;
            for (Field f : c.getDeclaredFields()) {
                boolean constant = Modifier.isStatic(f.getModifiers());
                due(!constant || Modifier.isFinal(f.getModifiers()), f + " is static and not final");
                fields += constant ? 0 : 1;
            }
            due(fields <= 20, c + " has too many fields");
            for (Method m : c.getDeclaredMethods()) {
                due(m.getParameterCount() <= 7, m + " has too many parameters");
            }
        }
    }

    private static void source(String all) {
        String code = all.replaceAll("(?s)/\\*.*?\\*/", "").replaceAll("//[^\n]*", "");
        for (String f : FORBIDDEN) {
            Matcher m = Pattern.compile(f).matcher(code);
            due(!m.find(), "the source holds " + f);
        }
        due(all.chars().allMatch(x -> x < 128), "the source holds signs above 127");
        Matcher m = Pattern.compile("throw new (\\w+)").matcher(code);
        while (m.find()) {
            due(m.group(1).equals("NoSuchElementException"), "the source throws " + m.group(1));
        }
        String[] lines = all.split("\n");
        int begin = 0;
        for (int i = 0; i < lines.length; i++) {
            if (lines[i].matches(" {4,8}[A-Za-z][^=;]*\\) (throws \\w+ )?\\{")) {
                begin = i;
            } else if (lines[i].matches(" {4,8}\\}")) {
                due(i - begin < 60, "a method of " + (i - begin) + " lines ends at line " + (i + 1));
                begin = i;
            }
        }
    }
}
