import java.io.IOException;
import java.lang.reflect.Method;
import java.lang.reflect.Modifier;
import java.nio.file.Files;
import java.nio.file.Path;
import java.util.List;
import java.util.regex.Matcher;
import java.util.regex.Pattern;

/** README.md tells of every method, and its examples answer what it says. */
public final class ReadmeTest {
    private static final Due due = new Due("ReadmeTest");
    private static final Pattern TAPE = Pattern.compile("tape\\(x, \"(.*)\"\\);");
    private static final Pattern CALL = Pattern.compile("x\\.(\\w+)\\((.*)\\); +// (-?\\d+)\\b.*");
    private static WordPlaces x;

    public static void main(String[] args) throws IOException, ReflectiveOperationException {
        String page = Files.readString(Path.of("README.md"));
        tellsOfEachMethod(page);
        String[] parts = page.split("```");
        for (int i = 1; i < parts.length; i += 2) {
            if (parts[i].startsWith("java\nstatic ")) {
                isOwnFunction(parts[i].substring(5));
            } else if (parts[i].startsWith("java\n")) {
                runAll(parts[i].substring(5).lines().toList());
            }
        }
        due.end();
    }

    private static void tellsOfEachMethod(String page) {
        for (Method m : WordPlaces.class.getDeclaredMethods()) {
            if (Modifier.isPublic(m.getModifiers())) {
                due.is("README.md tells of " + m.getName(), page.matches("(?s).*[`.]" + m.getName() + "[(`].*") ? 1 : 0, 1);
            }
        }
    }

    /** The page's function is the one below, but for blanks ahead of its lines. */
    private static void isOwnFunction(String text) throws IOException {
        String own = Files.readString(Path.of("src/test/java/ReadmeTest.java"));
        String shifted = text.strip().replaceAll("(?m)^", "    ");
        due.is("README.md has the function that this test has", own.contains("\n" + shifted + "\n") ? 1 : 0, 1);
    }

    static void tape(WordPlaces x, String text) {
        x.end(0);
        for (int from = 0; from < text.length(); from += 20) {
            int[] n = new int[5];
            for (int i = 0; i < 20; i++) {
                n[i / 4] = n[i / 4] << 8 | (from + i < text.length() ? text.charAt(from + i) : 0);
            }
            x.feed(n[0], n[1], n[2], n[3], n[4]);
        }
        x.end(text.length());
    }

    private static void runAll(List<String> lines) throws ReflectiveOperationException {
        for (String line : lines) {
            Matcher tape = TAPE.matcher(line);
            Matcher call = CALL.matcher(line);
            if (line.equals("WordPlaces x = new WordPlaces();")) {
                x = new WordPlaces();
            } else if (tape.matches()) {
                tape(x, tape.group(1).replace("\\\"", "\""));
            } else {
                due.is("README.md: a call and its answer: " + line, call.matches() ? 1 : 0, 1);
                if (call.matches()) {
                    due.is("README.md: " + line, answer(call.group(1), call.group(2)), Integer.parseInt(call.group(3)));
                }
            }
        }
    }

    private static int answer(String name, String told) throws ReflectiveOperationException {
        String[] texts = told.isEmpty() ? new String[0] : told.split(", ");
        for (Method m : WordPlaces.class.getDeclaredMethods()) {
            if (m.getName().equals(name) && m.getParameterCount() == texts.length) {
                Object[] numbers = new Object[texts.length];
                for (int i = 0; i < texts.length; i++) {
                    int number = number(texts[i]);
                    numbers[i] = m.getParameterTypes()[i] == long.class ? (Object) (long) number : (Object) number;
                }
                return (Integer) m.invoke(x, numbers);
            }
        }
        throw new IllegalArgumentException("no such call: " + name + "(" + told + ")");
    }

    private static int number(String text) {
        if (text.equals("WordPlaces.NONE")) {
            return WordPlaces.NONE;
        }
        return text.startsWith("'") ? text.charAt(1) : Integer.decode(text);
    }
}
