/** What the tests share: counting answers that are not due, and bringing a text onto the TAPE. */
final class Due {
    private final String name;
    private int asked = 0;
    private int wrong = 0;

    Due(String name) {
        this.name = name;
    }

    void is(String call, long got, long want) {
        asked++;
        if (got != want) {
            wrong++;
            System.out.println(name + ": " + call + " answered " + got + ", due is " + want);
        }
    }

    /** Answers row by row, told as text: "1 4 7". */
    void are(String call, String got, String want) {
        asked++;
        if (!got.equals(want)) {
            wrong++;
            System.out.println(name + ": " + call + " answered [" + got + "], due is [" + want + "]");
        }
    }

    void end() {
        System.out.println(name + ": " + (asked - wrong) + " passed, " + wrong + " failed");
        if (wrong != 0) {
            System.exit(1);
        }
    }

    /** Puts a text behind what the TAPE has; the last feed() brings too much, which end() takes away. */
    static WordPlaces put(WordPlaces x, String text) {
        int ahead = x.count(5);
        if (ahead + text.length() > 400) {
            throw new IllegalArgumentException("a TAPE of more than 400 bytes: " + text);
        }
        for (int i = 0; i < text.length(); i += 20) {
            int[] numbers = new int[5];
            for (int j = 0; j < 20; j++) {
                int sign = i + j < text.length() ? text.charAt(i + j) : 0;
                numbers[j / 4] = numbers[j / 4] << 8 | sign & 255;
            }
            x.feed(numbers[0], numbers[1], numbers[2], numbers[3], numbers[4]);
        }
        x.end(ahead + text.length());
        return x;
    }

    static int line(WordPlaces x, int edition, String text) {
        return put(x, text).line(edition);
    }

    static int rules(WordPlaces x, String text) {
        return put(x, text).rules();
    }

    static int ask(WordPlaces x, int edition, String text) {
        return put(x, text).ask(edition);
    }

    static int slip(WordPlaces x, int h, int p, String text) {
        return put(x, text).slip(h, p);
    }

    /** A book of these LINES in EDITION 0. */
    static WordPlaces book(String... lines) {
        WordPlaces x = new WordPlaces();
        for (String text : lines) {
            line(x, 0, text);
        }
        return x;
    }

    /** The PLACES that answered the latest ask(). */
    static String answered(WordPlaces x) {
        StringBuilder text = new StringBuilder();
        int place = x.answer(0, 0);
        for (int i = 1; place >= 0; i++) {
            text.append(i > 1 ? " " : "").append(place);
            place = x.answer(i, 0);
        }
        return text.toString();
    }

    /** A FORM's letters by form(). */
    static String letters(WordPlaces x, int f) {
        StringBuilder text = new StringBuilder();
        for (int i = 0; x.form(f, 10 + i) > 0; i++) {
            text.append((char) x.form(f, 10 + i));
        }
        return text.toString();
    }

    /** All FORMS by their numbers. */
    static String allForms(WordPlaces x) {
        StringBuilder text = new StringBuilder();
        for (int f = 0; f < x.forms(); f++) {
            text.append(f > 0 ? " " : "").append(letters(x, f));
        }
        return text.toString();
    }

    /** All FORMS by the ORDER. */
    static String allOrdered(WordPlaces x) {
        StringBuilder text = new StringBuilder();
        for (int i = 0; x.ordered(i) >= 0; i++) {
            text.append(i > 0 ? " " : "").append(letters(x, x.ordered(i)));
        }
        return text.toString();
    }

    static int formOf(WordPlaces x, String letters) {
        for (int f = 0; f < x.forms(); f++) {
            if (letters(x, f).equals(letters)) {
                return f;
            }
        }
        return -1;
    }

    static String times(String text, int n) {
        StringBuilder all = new StringBuilder();
        for (int i = 0; i < n; i++) {
            all.append(text);
        }
        return all.toString();
    }
}
