import java.lang.reflect.Constructor;
import java.lang.reflect.Field;
import java.lang.reflect.Method;
import java.lang.reflect.Modifier;
import java.nio.file.Files;
import java.nio.file.Path;
import java.util.ArrayList;
import java.util.List;
import java.util.TreeSet;
import java.util.regex.Matcher;
import java.util.regex.Pattern;

/** The face as the document tells it, and those rules of LANGUAGE.md that can be seen without running. */
public final class FaceTest {
    private static final int CALLS = 50;
    private static final String[] FORBIDDEN = {"\\bcatch\\b", "\\btry\\b", "\\bfinally\\b", "->", "::",
        "\\bsynchronized\\b", "\\bassert\\b", "\\bInteger\\.parse", "Exact\\(", "\\bRandom\\b", "\\bSystem\\.(?!arraycopy)",
        "\\bThread\\b", "\\bString\\.", "\\bMath\\.random", "\\bStringBuilder\\b", "\\bimport java\\.util\\.(?!Arrays;|NoSuchElementException;)"};

    private static final List<String> WRONG = new ArrayList<>();

    public static void main(String[] args) throws Exception {
        String document = Files.readString(Path.of("../shared/DOC.md"));
        List<String> told = facesCalls(document);
        face(told);
        parts(document, told);
        classes();
        source(Files.readString(Path.of(args.length > 0 ? args[0] : "src/main/java/PieceBook.java")));
        for (String w : WRONG) {
            System.out.println("FaceTest: " + w);
        }
        System.out.println("FaceTest: " + WRONG.size() + " wrong");
        if (!WRONG.isEmpty()) {
            System.exit(1);
        }
    }

    private static void due(boolean holds, String otherwise) {
        if (!holds) {
            WRONG.add(otherwise);
        }
    }

    /** The calls as the document's face tells them, in its order: "int takes(int,int)". */
    private static List<String> facesCalls(String document) {
        List<String> told = new ArrayList<>();
        Matcher block = Pattern.compile("(?s)## The public face\\s+```java\n(.*?)```").matcher(document);
        Matcher m = Pattern.compile("public (\\w+ \\w+\\()([^)]*)\\)( throws \\w+)?;")
                .matcher(block.find() ? block.group(1) : "");
        while (m.find()) {
            told.add(m.group(1) + m.group(2).replaceAll(" \\w+,? ?", ",").replaceAll(",$", "") + ")"
                    + (m.group(3) == null ? "" : m.group(3)));
        }
        due(told.size() == CALLS, "the document's face tells " + told.size() + " calls");
        return told;
    }

    private static String nameOf(String call) {
        return call.substring(call.indexOf(' ') + 1, call.indexOf('('));
    }

    /** Which calls are edits and which are questions hangs on the parts, so these must hold the whole face in its order. */
    private static void parts(String document, List<String> told) {
        List<String> names = new ArrayList<>();
        Matcher part = Pattern.compile("Ahead of the calls (.*?) the interface says").matcher(document);
        while (part.find()) {
            Matcher m = Pattern.compile("`(\\w+)`").matcher(part.group(1));
            while (m.find()) {
                names.add(m.group(1));
            }
        }
        List<String> inOrder = new ArrayList<>();
        for (String call : told) {
            inOrder.add(nameOf(call));
        }
        due(names.equals(inOrder), "the parts hold " + names);
    }

    private static void face(List<String> told) {
        Class<?> c = PieceBook.class;
        due(PieceBook.NONE == -1, "NONE is " + PieceBook.NONE);
        due(Modifier.isPublic(c.getModifiers()) && Modifier.isFinal(c.getModifiers()), "the class is public and final");
        TreeSet<String> due = new TreeSet<>(told);
        TreeSet<String> got = new TreeSet<>();
        TreeSet<String> hidden = new TreeSet<>();
        for (Method m : c.getDeclaredMethods()) {
            if (Modifier.isPrivate(m.getModifiers())) {
                hidden.add(m.getName());
                continue;
            }
            StringBuilder b = new StringBuilder(m.getReturnType() + " " + m.getName() + "(");
            for (Class<?> p : m.getParameterTypes()) {
                b.append(b.charAt(b.length() - 1) == '(' ? "" : ",").append(p);
            }
            b.append(')');
            for (Class<?> thrown : m.getExceptionTypes()) {
                b.append(" throws ").append(thrown.getSimpleName());
            }
            got.add(b.toString());
        }
        for (Class<?> inside : c.getDeclaredClasses()) {
            for (Method m : inside.getDeclaredMethods()) {
                hidden.add(m.getName());
            }
        }
        due(got.equals(due), "the methods are " + got);
        for (String call : told) {
            String name = nameOf(call);
            due(!hidden.contains(name), "a private method bears the name of a public one: " + name);
        }
        for (Field f : c.getDeclaredFields()) {
            boolean isTold = f.getName().equals("NONE");
            due(isTold ? Modifier.isPublic(f.getModifiers()) : Modifier.isPrivate(f.getModifiers()), f + " is of another face");
        }
        Constructor<?>[] makers = c.getDeclaredConstructors();
        due(makers.length == 1 && Modifier.isPublic(makers[0].getModifiers())
                && makers[0].getParameterCount() == 0, "one public constructor without parameters");
    }

    private static void classes() {
        List<Class<?>> all = new ArrayList<>(List.of(PieceBook.class.getDeclaredClasses()));
        due(all.size() <= 11, "too many classes");
        for (Class<?> c : all) {
            due(Modifier.isStatic(c.getModifiers()) && !Modifier.isPublic(c.getModifiers()), c + " is not static");
        }
        all.add(PieceBook.class);
        for (Class<?> c : all) {
            int fields = 0;
            for (Field f : c.getDeclaredFields()) {
                boolean constant = Modifier.isStatic(f.getModifiers());
                due(!constant || Modifier.isFinal(f.getModifiers()), f + " is static and not final");
                fields += constant ? 0 : 1;
            }
            due(fields <= 20, c + " has too many fields");
            for (Method m : c.getDeclaredMethods()) {
                due(m.getParameterCount() <= 7, m + " has too many parameters");
            }
        }
    }

    private static void source(String all) {
        String code = all.replaceAll("(?s)/\\*.*?\\*/", "").replaceAll("//[^\n]*", "");
        for (String f : FORBIDDEN) {
            Matcher m = Pattern.compile(f).matcher(code);
            due(!m.find(), "the source holds " + f);
        }
        due(all.chars().allMatch(x -> x < 128), "the source holds signs above 127");
        Matcher m = Pattern.compile("throw new (\\w+)").matcher(code);
        while (m.find()) {
            due(m.group(1).equals("NoSuchElementException"), "the source throws " + m.group(1));
        }
        String[] lines = all.split("\n");
        int begin = 0;
        for (int i = 0; i < lines.length; i++) {
            if (lines[i].matches(" {4,8}[A-Za-z][^=;]*\\) (throws \\w+ )?\\{")) {
                begin = i;
            } else if (lines[i].matches(" {4,8}\\}")) {
                due(i - begin < 60, "a method of " + (i - begin) + " lines ends at line " + (i + 1));
                begin = i;
            }
        }
    }
}
