import java.io.IOException;
import java.net.URL;
import java.net.URLClassLoader;
import java.nio.file.Files;
import java.nio.file.Path;
import java.util.function.BiConsumer;
import java.util.regex.Matcher;
import java.util.regex.Pattern;
import javax.tools.JavaCompiler;
import javax.tools.ToolProvider;

/** The lines of README.md that show how to use the class: each answers what stands behind it. */
public final class ReadmeTest {
    private static final Pattern BLOCK = Pattern.compile("(?s)```java\n(.*?)```");
    private static final Pattern ASKED = Pattern.compile("(?:(int|long) (\\w+) = )?(books\\.\\w+\\(.*\\)); *// (\\S+)");
    private static final String NAME = "ReadmeLines";

    public static void main(String[] args) throws IOException, ReflectiveOperationException {
        Matcher block = BLOCK.matcher(Files.readString(Path.of("README.md")));
        Due.isTrue("README.md has lines of Java", block.find());
        Path room = Files.createTempDirectory("readme");
        Path source = room.resolve(NAME + ".java");
        try {
            Files.writeString(source, program(block.group(1)));
            run(room, source);
        } finally {
            Files.deleteIfExists(source);
            Files.deleteIfExists(room.resolve(NAME + ".class"));
            Files.deleteIfExists(room);
        }
        Due.end();
    }

    /** The lines with what they answer handed to the test, as this class is of another loader. */
    private static String program(String lines) {
        StringBuilder text = new StringBuilder("public final class " + NAME + " {\n");
        text.append("public static void run(java.util.function.BiConsumer<String, long[]> due) {\n");
        for (String line : lines.split("\n")) {
            Matcher asked = ASKED.matcher(line);
            if (asked.matches()) {
                text.append(asked.group(1) == null ? "" : asked.group(1)).append(compared(asked));
            } else {
                Due.isTrue("it tells what it answers: " + line, !line.contains("books."));
                text.append(line).append('\n');
            }
        }
        return text.append("}\n}\n").toString();
    }

    private static String compared(Matcher asked) {
        String call = asked.group(3);
        String got = asked.group(2) == null ? call : asked.group(2);
        String compare = "due.accept(\"" + call + "\", new long[] {" + got + ", " + asked.group(4) + "});\n";
        return asked.group(2) == null ? compare : " " + got + " = " + call + ";\n" + compare;
    }

    private static void run(Path room, Path source) throws IOException, ReflectiveOperationException {
        JavaCompiler compiler = ToolProvider.getSystemJavaCompiler();
        int failed = compiler.run(null, System.out, System.out, "-cp", System.getProperty("java.class.path"), "-d",
            room.toString(), source.toString());
        Due.is("the lines compile", failed, 0);
        if (failed == 0) {
            try (URLClassLoader loader = new URLClassLoader(new URL[] {room.toUri().toURL()})) {
                BiConsumer<String, long[]> due = (call, answers) -> Due.is(call, answers[0], answers[1]);
                loader.loadClass(NAME).getMethod("run", BiConsumer.class).invoke(null, due);
            }
        }
    }
}
