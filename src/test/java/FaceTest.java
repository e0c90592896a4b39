import java.lang.reflect.Constructor;
import java.lang.reflect.Field;
import java.lang.reflect.Method;
import java.lang.reflect.Modifier;
import java.nio.file.Files;
import java.nio.file.Path;
import java.util.Set;
import java.util.TreeSet;
import java.util.regex.Matcher;
import java.util.regex.Pattern;

/** The public face, and of the rules of LANGUAGE.md those that can be seen from the text or by reflection. */
public final class FaceTest {
    public static void main(String[] args) throws Exception {
        face();
        members();
        constants();
        text();
        Due.end();
    }

    private static void face() {
        Set<String> got = new TreeSet<>();
        for (Method m : LedgerTwice.class.getDeclaredMethods()) {
            if (Modifier.isPublic(m.getModifiers())) {
                StringBuilder text = new StringBuilder(m.getReturnType() + " " + m.getName());
                for (Class<?> type : m.getParameterTypes()) {
                    text.append(' ').append(type);
                }
                got.add(text.toString());
            }
        }
        Set<String> due = new TreeSet<>(Set.of(
            "int account int int int boolean", "int shut int boolean", "int period int", "int owner int",
            "int line int long", "int drop", "int post int int", "int back int int", "int close", "int reopen",
            "int share int long int int", "int sync", "int crash int int", "int recover", "int byteAt int",
            "int of int int", "long balance int", "long sum int int int", "int entry int int",
            "long lineOf int int int", "long ledger int int int", "int periodOf int int", "int sheet int",
            "int shown int", "long part long int int int int int", "int count int"));
        Due.is("the methods", String.join("\n", got), String.join("\n", due));
        Due.isTrue("final", Modifier.isFinal(LedgerTwice.class.getModifiers()));
        for (Constructor<?> c : LedgerTwice.class.getDeclaredConstructors()) {
            Due.isTrue("public, without arguments", Modifier.isPublic(c.getModifiers()) && c.getParameterCount() == 0);
        }
    }

    private static void members() {
        Set<String> names = new TreeSet<>();
        for (Method m : LedgerTwice.class.getDeclaredMethods()) {
            if (Modifier.isPublic(m.getModifiers())) {
                names.add(m.getName());
            }
        }
        for (Method m : LedgerTwice.class.getDeclaredMethods()) {
            int how = m.getModifiers();
            Due.isTrue(m + " is public or private", Modifier.isPublic(how) || Modifier.isPrivate(how));
            Due.isTrue(m + " has at most seven parameters", m.getParameterCount() <= 7);
            Due.isTrue(m + " has a name of its own", Modifier.isPublic(how) || !names.contains(m.getName()));
        }
        Class<?>[] inside = LedgerTwice.class.getDeclaredClasses();
        Due.isTrue("at most twelve classes", inside.length <= 11);
        for (Class<?> c : inside) {
            Due.isTrue(c + " is static", Modifier.isStatic(c.getModifiers()));
            Due.isTrue(c + " is not public", !Modifier.isPublic(c.getModifiers()));
            for (Method m : c.getDeclaredMethods()) {
                Due.isTrue(m + " has a name of its own", !names.contains(m.getName()));
            }
        }
        for (Field f : LedgerTwice.class.getDeclaredFields()) {
            int how = f.getModifiers();
            Due.isTrue(f + " is private or a constant", Modifier.isPrivate(how) || Modifier.isPublic(how)
                && Modifier.isStatic(how) && Modifier.isFinal(how) && f.getType() == int.class);
        }
    }

    private static void constants() throws Exception {
        String[] names = {"NONE", "UNKNOWN", "OUTSIDE", "KIND", "TWICE", "NOT", "FEW", "UNEQUAL", "NODAY", "CLOSED",
            "SHUT", "OVER", "FULL"};
        for (int i = 0; i < names.length; i++) {
            Due.is(names[i], LedgerTwice.class.getField(names[i]).getInt(null), -1 - i);
        }
        Due.is("how many", LedgerTwice.class.getFields().length, names.length);
    }

    private static void text() throws Exception {
        String source = Files.readString(Path.of("src/main/java/LedgerTwice.java"));
        String code = source.replaceAll("(?s)/\\*.*?\\*/", "").replaceAll("//[^\n]*", "");
        String[] barred = {"\\bthrow\\b", "\\bthrows\\b", "\\btry\\b", "\\bcatch\\b", "\\bsynchronized\\b",
            "\\bassert\\b", "->", "::", "Exact\\b", "\\bpackage\\b", "\\bSystem\\.(?!arraycopy)", "\\bvar\\b",
            "\\.equals\\(", "hashCode", "toString", "\\bnew \\w+\\([^)]*\\) \\{"};
        for (String rule : barred) {
            Matcher found = Pattern.compile(rule).matcher(code);
            Due.isTrue("no " + rule, !found.find());
        }
        Due.isTrue("signs of 1 to 127", source.chars().allMatch(c -> c >= 1 && c <= 127));
        Matcher imports = Pattern.compile("import ([\\w.]+);").matcher(code);
        while (imports.find()) {
            Due.is("import", imports.group(1), "java.util.Arrays");
        }
    }
}
