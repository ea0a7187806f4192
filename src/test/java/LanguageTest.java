import java.io.IOException;
import java.lang.reflect.Constructor;
import java.lang.reflect.Field;
import java.lang.reflect.Method;
import java.lang.reflect.Modifier;
import java.nio.file.Files;
import java.nio.file.Path;
import java.util.ArrayList;
import java.util.Arrays;
import java.util.List;
import java.util.Set;
import java.util.TreeSet;
import java.util.regex.Matcher;
import java.util.regex.Pattern;

/** The face is the document's, and the source keeps to what can be seen of LANGUAGE.md. */
public final class LanguageTest {
    private static final String[] FACE = {"int story(int,int,int)", "int twin(int,int)", "int person(int,int)",
        "int set(int,int,int)", "int hears(int,int,int)", "int told(int,int,int)", "int one(int,int)",
        "int feed(int)", "int text()", "int force(int)", "int may(int)", "int by(int,int)", "long worth(int,int)",
        "long most(int,int)", "int tell(int,int)", "int pass()", "int goesOn(int,int)", "int spread(int,int)",
        "int keepAway(int)", "int send(int,int)", "int stranger(int,int,int)", "int left()", "int judge(int)",
        "int drawn(int,int)", "int image()", "int back()", "int count(int)", "int sheet(int,int,int)",
        "int cell(int,int,int)", "int copy(int,int,int,int,int)", "int people(int,int,int,int)",
        "int taken(int,int)"};
    private static final String[] CONSTANTS = {"int NONE", "int BAD", "int STATE", "int FULL", "long NO"};
    private static final String[] RULED_OUT = {"throw", "throws", "try", "catch", "finally", "synchronized", "assert",
        "import", "package", "volatile", "native", "strictfp", "instanceof", "Object", "Random", "Thread",
        "System\\.(?!arraycopy)\\w+", "\\w+Exact", "equals", "hashCode", "toString", "protected", "var"};
    private static final int CLASSES = 12, FIELDS = 20, PARAMETERS = 7, LINES = 60;

    private LanguageTest() {
    }

    public static void main(String[] args) throws IOException {
        String source = Files.readString(Path.of(args.length > 0 ? args[0] : "src/main/java/NotTwice.java"));
        face();
        insides();
        words(source);
        lengths(source);
        Due.close("LanguageTest");
    }

    private static void face() {
        Class<?> c = NotTwice.class;
        Due.holds("the class is public and final", c.getModifiers() == (Modifier.PUBLIC | Modifier.FINAL));
        Set<String> methods = new TreeSet<>();
        for (Method m : c.getDeclaredMethods()) {
            if (!Modifier.isPrivate(m.getModifiers())) {
                Due.holds(m + " is public and no more", m.getModifiers() == Modifier.PUBLIC);
                methods.add(m.getReturnType() + " " + m.getName()
                        + Arrays.toString(m.getParameterTypes()).replace("[", "(").replace("]", ")").replace(" ", ""));
            }
        }
        Due.holds("the methods are the document's: " + methods, methods.equals(new TreeSet<>(List.of(FACE))));
        Set<String> constants = new TreeSet<>();
        for (Field f : c.getDeclaredFields()) {
            if (!Modifier.isPrivate(f.getModifiers())) {
                constants.add(f.getType() + " " + f.getName());
            }
        }
        Due.holds("the constants are the document's: " + constants,
                constants.equals(new TreeSet<>(List.of(CONSTANTS))));
        Constructor<?>[] constructors = c.getDeclaredConstructors();
        Due.holds("one constructor, public, of nothing", constructors.length == 1
                && constructors[0].getModifiers() == Modifier.PUBLIC && constructors[0].getParameterCount() == 0);
    }

    private static void insides() {
        Set<String> faceNames = new TreeSet<>();
        for (String f : FACE) {
            faceNames.add(f.substring(f.indexOf(' ') + 1, f.indexOf('(')));
        }
        List<Class<?>> classes = new ArrayList<>();
        classes.add(NotTwice.class);
        classes.addAll(Arrays.asList(NotTwice.class.getDeclaredClasses()));
        Due.holds("some twelve classes", classes.size() <= CLASSES);
        for (Class<?> c : classes) {
            Due.holds(c + " is static", c == NotTwice.class || Modifier.isStatic(c.getModifiers()));
            int fields = 0;
            for (Field f : c.getDeclaredFields()) {
                Due.holds(f + " is no state of the class", !Modifier.isStatic(f.getModifiers())
                        || Modifier.isFinal(f.getModifiers()));
                fields += Modifier.isStatic(f.getModifiers()) ? 0 : 1;
            }
            Due.holds(c + " has some twenty fields", fields <= FIELDS);
            for (Method m : c.getDeclaredMethods()) {
                Due.holds(m + " takes seven at most", m.getParameterCount() <= PARAMETERS);
                Due.holds(m + " has a name of its own",
                        !Modifier.isPrivate(m.getModifiers()) || !faceNames.contains(m.getName()));
            }
        }
    }

    /** Comments and texts are blotted out; a line stays a line. */
    private static String code(String source) {
        Matcher m = Pattern.compile("(?s)/\\*.*?\\*/|//[^\\n]*|\"(?:\\\\.|[^\"\\\\])*\"|'(?:\\\\.|[^'\\\\])'")
                .matcher(source);
        StringBuilder out = new StringBuilder();
        while (m.find()) {
            m.appendReplacement(out, m.group().replaceAll("[^\\n]+", "0"));
        }
        m.appendTail(out);
        return out.toString();
    }

    private static void words(String source) {
        String code = code(source);
        for (String word : RULED_OUT) {
            Due.holds("no " + word, !Pattern.compile("\\b" + word + "\\b").matcher(code).find());
        }
        Due.holds("no lambda", !code.contains("->"));
        Due.holds("no reference to a method", !code.contains("::"));
        for (int i = 0; i < source.length(); i++) {
            char c = source.charAt(i);
            if (c != '\n' && (c < 32 || c > 126)) {
                Due.holds("plain letters alone, not " + (int) c, false);
            }
        }
    }

    /** The source is laid out with a method's head and its end at the same depth. */
    private static void lengths(String source) {
        String[] lines = code(source).split("\n");
        Pattern head = Pattern.compile("^( {4}| {8})(public|private) .*\\) \\{$");
        int methods = 0;
        for (int i = 0; i < lines.length; i++) {
            Matcher m = head.matcher(lines[i]);
            if (m.matches()) {
                int end = i;
                while (end < lines.length && !lines[end].equals(m.group(1) + "}")) {
                    end++;
                }
                methods++;
                Due.holds("short: " + lines[i].trim(), end - i < LINES);
            }
        }
        Due.holds("methods were found", methods > FACE.length);
    }
}
