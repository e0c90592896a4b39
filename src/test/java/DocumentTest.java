import java.io.IOException;
import java.nio.file.Files;
import java.nio.file.Path;
import java.util.List;
import java.util.regex.Matcher;
import java.util.regex.Pattern;
import java.util.stream.Stream;

/** Each sentence of the document has a test: all its words are told by a Due.says(..) of some test. */
public final class DocumentTest {
    private static final Pattern SAYS = Pattern.compile("Due\\.says\\(((?:\\s*\\+?\\s*\"(?:[^\"\\\\]|\\\\.)*\")+)\\)");
    private static final Pattern TEXT = Pattern.compile("\"((?:[^\"\\\\]|\\\\.)*)\"");
    // What can't be broken by an answer.
    private static final String[] NO_ANSWER = {
        "Books that are kept twice: .*? sheets are written out by codes\\.",
        "Ahead of the calls [^.]* the interface says: ---- [a-z, ]*\\.",
        "`[^`]*`:",
    };

    public static void main(String[] args) throws IOException {
        String words = Document.words();
        boolean[] told = new boolean[words.length()];
        for (String pattern : NO_ANSWER) {
            Matcher found = Pattern.compile(pattern).matcher(words);
            while (found.find()) {
                mark(told, found.start(), found.end());
            }
        }
        for (Path file : tests()) {
            Matcher says = SAYS.matcher(Files.readString(file));
            while (says.find()) {
                markAll(words, told, text(says.group(1)));
            }
        }
        listUntold(words, told);
        Due.end();
    }

    private static List<Path> tests() throws IOException {
        try (Stream<Path> files = Files.list(Path.of("src/test/java"))) {
            return files.filter(f -> f.toString().endsWith("Test.java")).toList();
        }
    }

    private static String text(String literals) {
        StringBuilder text = new StringBuilder();
        Matcher one = TEXT.matcher(literals);
        while (one.find()) {
            text.append(one.group(1).replace("\\\"", "\""));
        }
        return text.toString();
    }

    private static void markAll(String words, boolean[] told, String text) {
        int at = words.indexOf(text);
        Due.isTrue("the document says: " + text, at >= 0);
        while (at >= 0) {
            mark(told, at, at + text.length());
            at = words.indexOf(text, at + 1);
        }
    }

    private static void mark(boolean[] told, int from, int to) {
        for (int i = from; i < to; i++) {
            told[i] = true;
        }
    }

    private static void listUntold(String words, boolean[] told) {
        int start = 0;
        for (int i = 0; i <= told.length; i++) {
            if (i == told.length || told[i]) {
                String untold = words.substring(start, i);
                if (untold.matches(".*[A-Za-z0-9].*")) {
                    Due.is("no test says", untold, "");
                }
                start = i + 1;
            }
        }
    }
}
