import java.lang.reflect.InvocationTargetException;
import java.lang.reflect.Method;
import java.util.Arrays;
import java.util.Comparator;

/** ../shared/LANGUAGE.md, rule 7: no call ever throws, for any arguments in any state. */
public final class EveryCallTest {
    private static final Due due = new Due("EveryCallTest");
    private static final int[] FEW = {Integer.MIN_VALUE, -1, 0, 1, 60, Integer.MAX_VALUE};
    private static final int[] MANY = {Integer.MIN_VALUE, -256, -2, -1, 0, 1, 2, 3, 4, 5, 8, 10, 11, 39, 40, 60, 61, 299, 300,
        400, 599, 600, 2147483637, Integer.MAX_VALUE};
    private static final String[] TEXTS = {"", "a", "a b-", "stop a;order cba;", "root a of b;fold b to c;", "a near 2 b or root a",
        "((((((a))))))", "\"a b\"", "\u0000\u00ff", Due.times("a-", 30), Due.times("a or ", 31), Due.times("(", 40)};
    private static final int STATES = 4;

    private static int calls = 0;
    private static WordPlaces x;

    public static void main(String[] args) throws IllegalAccessException {
        Method[] methods = WordPlaces.class.getDeclaredMethods();
        Arrays.sort(methods, Comparator.comparing(Method::toString));
        int tried = 0;
        for (Method m : methods) {
            if (java.lang.reflect.Modifier.isPublic(m.getModifiers())) {
                tried++;
                for (int state = 0; state < STATES; state++) {
                    calls = 0;
                    tryAll(m, state, new Object[m.getParameterCount()], 0);
                }
            }
        }
        due.is("methods of promises 2 to 37", tried, 36);
        due.end();
    }

    private static void tryAll(Method m, int state, Object[] arguments, int from) throws IllegalAccessException {
        if (from < arguments.length) {
            for (int value : arguments.length > 2 ? FEW : MANY) {
                arguments[from] = m.getParameterTypes()[from] == long.class ? (Object) (value * 4294967295L) : (Object) value;
                tryAll(m, state, arguments, from + 1);
            }
            return;
        }
        for (String text : arguments.length > 2 ? new String[] {""} : TEXTS) {
            // An object is used for 512 calls, of which the making and each TAPE takes some.
            if (calls++ % (text.isEmpty() && arguments.length > 2 ? 200 : 16) == 0) {
                x = made(state);
            }
            if (!text.isEmpty()) {
                x.end(0);
                Due.put(x, text);
            }
            String told = "nothing";
            try {
                m.invoke(x, arguments);
            } catch (InvocationTargetException e) {
                told = e.getCause().toString();
            }
            due.are(m.getName() + Arrays.toString(arguments) + " in state " + state + " throws", told, "nothing");
        }
    }

    private static WordPlaces made(int state) {
        switch (state) {
            case 0:
                return new WordPlaces();
            case 1:
                return Sentences.full();
            case 2: {
                WordPlaces full = Sentences.ofLetters(Due.times("ab", 150));
                for (int i = 10; i < 40; i++) {
                    Due.line(full, 0, "-");
                }
                Due.rules(full, Due.times("root a of b c d a;", 19) + "order cba;");
                Due.slip(full, 3, 299, "q");
                return full;
            }
            default: {
                WordPlaces small = Due.book("a b-", "c", "");
                Due.line(small, 1, "b a");
                Due.rules(small, "stop c;root a of b c;fold c to b;");
                small.keep(1);
                small.row(0, 0, 60);
                small.row(1, 0, 0);
                small.row(2, 3, 7);
                Due.ask(small, 0, "a");
                small.shares(0, 8);
                small.print(0, 5);
                return small;
            }
        }
    }
}
