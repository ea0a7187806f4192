import java.io.IOException;
import java.lang.reflect.Method;
import java.lang.reflect.Modifier;
import java.nio.file.Files;
import java.nio.file.Path;
import java.util.regex.Matcher;
import java.util.regex.Pattern;

/** The examples of README.md answer what stands behind them, and every call is named there. */
public final class ReadmeTest {
    private static final Pattern BLOCK = Pattern.compile("(?s)```java\n(.*?)```");
    private static final Pattern CALL = Pattern.compile("x\\.(\\w+)\\(([^)]*)\\); +// (-?\\w+): .*");
    private static final Pattern FEED =
            Pattern.compile("for \\(char c : \"([^\"\\\\]*)\"\\.toCharArray\\(\\)\\) x\\.feed\\(c\\);");

    private ReadmeTest() {
    }

    public static void main(String[] args) throws IOException, ReflectiveOperationException {
        String page = Files.readString(Path.of("README.md"));
        int blocks = 0;
        Matcher block = BLOCK.matcher(page);
        while (block.find()) {
            run(block.group(1).split("\n"));
            blocks++;
        }
        Due.holds("README.md has examples", blocks > 0);
        for (Method m : NotTwice.class.getDeclaredMethods()) {
            Due.holds("README.md names " + m.getName(),
                    !Modifier.isPublic(m.getModifiers()) || page.contains("`" + m.getName() + "`"));
        }
        Due.close("ReadmeTest");
    }

    private static void run(String[] lines) throws ReflectiveOperationException {
        Due.is("an example's first line: " + lines[0], lines[0].equals("NotTwice x = new NotTwice();") ? 1 : 0, 1);
        NotTwice x = new NotTwice();
        for (int i = 1; i < lines.length; i++) {
            Matcher call = CALL.matcher(lines[i]);
            Matcher feed = FEED.matcher(lines[i]);
            if (call.matches()) {
                Due.is(lines[i], answer(x, call.group(1), call.group(2)), number(call.group(3)));
            } else if (feed.matches()) {
                Due.feed(x, feed.group(1));
            } else {
                Due.holds("a line is read: " + lines[i], false);
            }
        }
    }

    private static long answer(NotTwice x, String name, String row) throws ReflectiveOperationException {
        String[] words = row.isEmpty() ? new String[0] : row.split(", ");
        Class<?>[] types = new Class<?>[words.length];
        Object[] values = new Object[words.length];
        for (int i = 0; i < words.length; i++) {
            types[i] = int.class;
            values[i] = (int) number(words[i]);
        }
        return ((Number) NotTwice.class.getMethod(name, types).invoke(x, values)).longValue();
    }

    /** A number as it stands there, or a constant of the face by its name. */
    private static long number(String word) throws ReflectiveOperationException {
        return word.matches("-?\\d+") ? Long.parseLong(word)
                : NotTwice.class.getField(word.replace("NotTwice.", "")).getLong(null);
    }
}
