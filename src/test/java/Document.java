import java.io.IOException;
import java.nio.file.Files;
import java.nio.file.Path;

/** The document's words, by promise (0: what is said ahead of them); how it is laid out does not matter. */
final class Document {
    static final int PROMISES = 33;
    private static final String FIRST = "An object is used", LAST_OF_TERMS = "Ahead of the calls";

    private final String all;

    Document(Path file) throws IOException {
        all = plain(Files.readString(file).replaceAll("(?s)```java.*?```", " "));
    }

    private static String plain(String s) {
        return s.replaceAll("```\\w*|==== \\d|## (The public face|Terms)", " ").replaceAll("\\s+", " ").trim();
    }

    String section(int promise) {
        if (promise == 0) {
            return between(FIRST, LAST_OF_TERMS);
        }
        String part = between("## Promise " + promise + ": ", promise < PROMISES ? "## Promise " + (promise + 1) + ": "
                : "## Not promised");
        int body = part.indexOf("`: ");
        return body < 0 ? "" : part.substring(body + 3);
    }

    private String between(String from, String to) {
        int start = all.indexOf(from);
        int end = start < 0 ? -1 : all.indexOf(to, start);
        return end < 0 ? "" : all.substring(start, end).trim();
    }

    static boolean says(String section, String words) {
        return section.contains(plain(words));
    }

    static String without(String section, String words) {
        return section.replace(plain(words), " | ");
    }
}
