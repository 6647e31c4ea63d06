import java.io.IOException;
import java.lang.reflect.InvocationTargetException;
import java.lang.reflect.Method;
import java.lang.reflect.Modifier;
import java.nio.file.DirectoryStream;
import java.nio.file.Files;
import java.nio.file.Path;
import java.util.regex.Matcher;
import java.util.regex.Pattern;

/** README.md holds: its examples answer what stands behind them, and it names each call and each test. */
public final class ReadmeTest extends Asking {
    private static final int EXAMPLES_LEAST = 40;
    private static final Pattern EXAMPLE =
            Pattern.compile("book\\.(\\w+)\\((.*)\\); +// (-?\\d+|true|false|\\w+Exception)(:.*)?");

    public static void main(String[] args) throws IOException, IllegalAccessException {
        String readme = Files.readString(Path.of("README.md"));
        due(Math.min(examples(readme), EXAMPLES_LEAST), EXAMPLES_LEAST);
        for (Method m : PieceBook.class.getDeclaredMethods()) {
            if (Modifier.isPublic(m.getModifiers())) {
                dueNamed(readme, "\n\\| .*`" + m.getName() + "`");
            }
        }
        try (DirectoryStream<Path> tests = Files.newDirectoryStream(Path.of("src/test/java"), "*Test.java")) {
            for (Path test : tests) {
                dueNamed(readme, "\n\\| `" + test.getFileName().toString().replace(".java", "") + "` \\|");
            }
        }
        finish("ReadmeTest");
    }

    /** All examples are of one book, from one block to the next: how many there are. */
    private static int examples(String readme) throws IllegalAccessException {
        int found = 0;
        PieceBook book = null;
        Matcher block = Pattern.compile("(?s)```java\n(.*?)```").matcher(readme);
        while (block.find()) {
            for (String line : block.group(1).split("\n")) {
                about(line);
                Matcher m = EXAMPLE.matcher(line);
                if (line.equals("PieceBook book = new PieceBook();")) {
                    book = new PieceBook();
                } else if (m.matches()) {
                    due(answer(book, m.group(1), m.group(2)), m.group(3));
                    found++;
                } else {
                    tellWrong("no example with its answer");
                }
            }
        }
        return found;
    }

    private static String answer(PieceBook book, String name, String told) throws IllegalAccessException {
        for (Method m : PieceBook.class.getDeclaredMethods()) {
            if (m.getName().equals(name) && Modifier.isPublic(m.getModifiers())) {
                try {
                    return String.valueOf(m.invoke(book, numbers(told)));
                } catch (InvocationTargetException e) {
                    return e.getCause().getClass().getSimpleName();
                }
            }
        }
        return "no such call";
    }

    private static Object[] numbers(String told) {
        if (told.isEmpty()) {
            return new Object[0];
        }
        String[] words = told.split(", ");
        Object[] numbers = new Object[words.length];
        for (int i = 0; i < words.length; i++) {
            numbers[i] = words[i].startsWith("'") ? (int) words[i].charAt(1) : (int) Long.decode(words[i]).longValue();
        }
        return numbers;
    }

    private static void dueNamed(String readme, String pattern) {
        about(pattern);
        due(Pattern.compile(pattern).matcher(readme).find(), true);
    }
}
