import java.io.IOException;
import java.lang.reflect.InvocationTargetException;
import java.lang.reflect.Method;
import java.nio.file.Files;
import java.nio.file.Path;
import java.util.ArrayList;
import java.util.Comparator;
import java.util.List;

/** Every sentence of the document has a test of its own, at the edges that it names. */
public final class EdgesTest {
    private static final Class<?>[] TESTS = {TermsEdges.class, TextEdges.class, EveningEdges.class, CallEdges.class,
        HostEdges.class, Refusals.class};

    private EdgesTest() {
    }

    /** The second argument is the document's path. */
    public static void main(String[] args) throws IOException, IllegalAccessException {
        List<Method> tests = tests();
        for (Method test : tests) {
            run(test);
        }
        if (args.length > 1 && Files.isReadable(Path.of(args[1]))) {
            compare(tests, new Document(Path.of(args[1])));
        } else {
            System.out.println("EdgesTest: the document is not there, its words were not compared");
        }
        System.out.println("EdgesTest: " + tests.size() + " tests");
        Due.close("EdgesTest");
    }

    private static List<Method> tests() {
        List<Method> tests = new ArrayList<>();
        for (Class<?> c : TESTS) {
            for (Method m : c.getDeclaredMethods()) {
                if (m.isAnnotationPresent(Says.class)) {
                    tests.add(m);
                }
            }
        }
        tests.sort(Comparator.comparing(Method::getName));
        return tests;
    }

    private static void run(Method test) throws IllegalAccessException {
        int before = Due.wrong();
        try {
            test.invoke(null);
        } catch (InvocationTargetException e) {
            Due.holds(test.getName() + " ends without " + e.getCause(), false);
        }
        if (Due.wrong() > before) {
            Says says = test.getAnnotation(Says.class);
            System.out.println("  in " + test.getDeclaringClass().getName() + "." + test.getName() + ", of promise "
                    + says.of() + ": " + String.join(" .. ", says.words()));
        }
    }

    /** What the tests quote stands in the document, and nothing stands there that none of them quotes. */
    private static void compare(List<Method> tests, Document document) {
        for (int promise = 0; promise <= Document.PROMISES; promise++) {
            String section = document.section(promise);
            List<String> quotes = new ArrayList<>();
            for (Method test : tests) {
                Says says = test.getAnnotation(Says.class);
                if (says.of() == promise) {
                    quotes.addAll(List.of(says.words()));
                }
            }
            quotes.sort(Comparator.comparing(String::length).reversed());
            String rest = section;
            for (String words : quotes) {
                Due.holds("promise " + promise + " says: " + words, Document.says(section, words));
                rest = Document.without(rest, words);
            }
            Due.holds("promise " + promise + " says more: " + rest,
                    !section.isEmpty() && !rest.matches(".*[A-Za-z0-9].*"));
        }
    }
}
