import java.io.IOException;
import java.lang.reflect.Constructor;
import java.lang.reflect.Field;
import java.lang.reflect.Method;
import java.lang.reflect.Modifier;
import java.nio.file.Files;
import java.nio.file.Path;
import java.util.ArrayList;
import java.util.List;
import java.util.Set;
import java.util.TreeSet;

/** The face of the class, and the rules of ../shared/LANGUAGE.md that can be seen from its text or its members. */
public final class LanguageTest {
    private static final Due due = new Due("LanguageTest");
    private static final String FACE = "NONE;WordPlaces();alike();answer(int,int);ask(int);back(int);begins();begun(int);"
        + "copied(int,int);count(int);edition(int,int);end(int);fault(int);feed(int,int,int,int,int);form(int,int);forms();"
        + "hand(int,int);keep(int);line(int);lineOf(int,int);matched(int);ordered(int);pack(int,int,int);page(int);"
        + "paste(int,int,int,int,int);print(int,int);rank(int);ranked(int,int);right(int,int);room(int);row(int,int,int);"
        + "rules();share(int);shares(int,int);slip(int,int);stands(int,int,int);word(int,int,int);write(int,int,long)";
    private static final List<String> FORBIDDEN = List.of("throw", "throws", "try", "catch", "synchronized", "assert",
        "Object", "Exception", "hashCode", "toString", "volatile", "native", "transient", "strictfp", "Thread", "Random");

    public static void main(String[] args) throws IOException {
        face();
        for (Class<?> inside : WordPlaces.class.getDeclaredClasses()) {
            classInside(inside);
        }
        due.is("at most twelve classes", WordPlaces.class.getDeclaredClasses().length < 12 ? 1 : 0, 1);
        text(Files.readAllLines(Path.of("src/main/java/WordPlaces.java")));
        due.end();
    }

    private static String told(String name, Class<?>[] types) {
        StringBuilder text = new StringBuilder(name).append('(');
        for (int i = 0; i < types.length; i++) {
            text.append(i > 0 ? "," : "").append(types[i].getName());
        }
        return text.append(')').toString();
    }

    private static void face() {
        Class<?> own = WordPlaces.class;
        Set<String> seen = new TreeSet<>();
        Set<String> hidden = new TreeSet<>();
        for (Field f : own.getDeclaredFields()) {
            if (!Modifier.isPrivate(f.getModifiers())) {
                seen.add(f.getName());
            }
        }
        for (Constructor<?> c : own.getDeclaredConstructors()) {
            if (!Modifier.isPrivate(c.getModifiers())) {
                seen.add(told("WordPlaces", c.getParameterTypes()));
            }
        }
        Set<String> names = new TreeSet<>();
        for (Method m : own.getDeclaredMethods()) {
            if (Modifier.isPrivate(m.getModifiers())) {
                hidden.add(m.getName());
            } else {
                seen.add(told(m.getName(), m.getParameterTypes()));
                names.add(m.getName());
                due.are(m.getName() + " answers", m.getReturnType().getName(), "int");
            }
        }
        due.are("the face", String.join(";", seen), FACE);
        hidden.retainAll(names);
        due.are("private methods with public names", String.join(";", hidden), "");
        due.are("the class", Modifier.toString(own.getModifiers()), "public final");
        members(own);
    }

    private static void classInside(Class<?> inside) {
        due.is(inside.getName() + " is static", Modifier.isStatic(inside.getModifiers()) ? 1 : 0, 1);
        due.is(inside.getName() + " is not public", inside.getModifiers() & (Modifier.PUBLIC | Modifier.PROTECTED), 0);
        members(inside);
    }

    private static void members(Class<?> one) {
        int fields = 0;
        for (Field f : one.getDeclaredFields()) {
            boolean fixed = Modifier.isStatic(f.getModifiers());
            fields += fixed ? 0 : 1;
            due.is(f + " is final if static", fixed && !Modifier.isFinal(f.getModifiers()) ? 1 : 0, 0);
        }
        due.is(one.getName() + " has at most twenty fields", fields <= 20 ? 1 : 0, 1);
        for (Method m : one.getDeclaredMethods()) {
            due.is(m + " has at most seven parameters", m.getParameterCount() <= 7 ? 1 : 0, 1);
        }
    }

    private static void text(List<String> lines) {
        int methodStart = 0;
        List<String> long60 = new ArrayList<>();
        for (int i = 0; i < lines.size(); i++) {
            String line = lines.get(i);
            String code = line.replaceAll("//.*|/\\*.*|^ *\\*.*", "").replaceAll("\"[^\"]*\"", "\"\"");
            for (String word : FORBIDDEN) {
                due.is("line " + (i + 1) + " has " + word, code.matches(".*\\b" + word + "\\b.*") ? 1 : 0, 0);
            }
            due.is("line " + (i + 1) + " has -> or ::", code.contains("->") || code.contains("::") ? 1 : 0, 0);
            due.is("line " + (i + 1) + " makes something in a method", makesInMethod(code) ? 1 : 0, 0);
            if (code.matches(" {4}(?: {4})?[a-zA-Z].*\\) \\{")) {
                methodStart = i;
            }
            if (code.matches(" {4}(?: {4})?\\}") && i - methodStart > 60 && !long60.contains(lines.get(methodStart))
                && lines.get(methodStart).contains("(") && code.indexOf('}') == lines.get(methodStart).indexOf(lines.get(methodStart).trim())) {
                long60.add(lines.get(methodStart));
            }
            if (code.startsWith("import")) {
                due.are("line " + (i + 1), code, "import java.util.Arrays;");
            }
        }
        due.are("methods beyond sixty lines", String.join(";", long60), "");
    }

    /** Rows are made once, by fields and KeyRow's constructor; a call makes nothing. */
    private static boolean makesInMethod(String code) {
        return code.contains("new ") && !code.matches(" {4}(?: {4})?(private )?(final )?[A-Za-z]+(\\[\\])* [a-z][A-Za-z]* = .*;")
            && !code.matches(" {12}(high|low) = new long\\[safe\\];");
    }
}
