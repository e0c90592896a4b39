import java.io.IOException;
import java.nio.file.Files;
import java.nio.file.Path;

/** The words of ../shared/DOC.md that bind: the terms and the promises, without headings, a blank between them. */
final class Document {
    private static final Path DOC = Path.of("../shared/DOC.md");
    private static String words = null;

    private Document() {
    }

    static String words() {
        if (words == null) {
            words = read();
        }
        return words;
    }

    private static String read() {
        try {
            String text = Files.readString(DOC);
            String binding = text.substring(text.indexOf("## What it is"), text.indexOf("## Not promised"));
            return binding.replaceAll("(?s)```java.*?```", "").replaceAll("(?m)^(##|```).*$", "")
                .replaceAll("\\s+", " ").trim();
        } catch (IOException e) {
            throw new IllegalStateException("the tests need " + DOC, e);
        }
    }
}
